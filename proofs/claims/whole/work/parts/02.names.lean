def R_Ar : String := "java/util/Arrays"
def R_Pn : String := "PlaneNet"
def F_Pn : u_T := fun k => match k with
  | 0 => ("PlaneNet", "points", "LPlaneNet$Points;", true)
  | 1 => ("PlaneNet", "net", "LPlaneNet$Net;", true)
  | 2 => ("PlaneNet", "roll", "LPlaneNet$Roll;", true)
  | 3 => ("PlaneNet", "outline", "LPlaneNet$Outline;", true)
  | 4 => ("PlaneNet", "found", "[I", true)
  | 5 => ("PlaneNet", "closestGap", "J", false)
  | 6 => ("PlaneNet", "closestLower", "I", false)
  | _ => ("PlaneNet", "closestOther", "I", false)
def t_Pn : Nat → FieldType := fun k => match k with
  | 0 => .object "PlaneNet$Points"
  | 1 => .object "PlaneNet$Net"
  | 2 => .object "PlaneNet$Roll"
  | 3 => .object "PlaneNet$Outline"
  | 4 => .array .int
  | 5 => .long
  | 6 => .int
  | _ => .int
theorem nk_Pn : ∀ a, a < 8 → ∀ b, b < 8 → a ≠ b → (F_Pn a).2.1 ≠ (F_Pn b).2.1 := by decide +kernel
theorem tk_Pn : ∀ k, k < 8 → parseFieldDescriptor (F_Pn k).2.2.1 = some (t_Pn k) := by decide +kernel
theorem in_Pn : ∀ w ∈ u_ws R_Pn F_Pn 8, w ∈ TT := fun w h => mem_TT ((by decide +kernel : ∀ w ∈ u_ws R_Pn F_Pn 8, w ∈ lw_tbl) w h) ((by decide +kernel : ∀ w ∈ u_ws R_Pn F_Pn 8, goodWord w = true) w h)
def R_Pt : String := "PlaneNet$Points"
def F_Pt : u_T := fun k => match k with
  | 0 => ("PlaneNet$Points", "room", "I", true)
  | 1 => ("PlaneNet$Points", "size", "I", false)
  | 2 => ("PlaneNet$Points", "xs", "LPlaneNet$Row;", true)
  | 3 => ("PlaneNet$Points", "ys", "LPlaneNet$Row;", true)
  | _ => ("PlaneNet$Points", "sum", "LPlaneNet$Wide;", true)
def t_Pt : Nat → FieldType := fun k => match k with
  | 0 => .int
  | 1 => .int
  | 2 => .object "PlaneNet$Row"
  | 3 => .object "PlaneNet$Row"
  | _ => .object "PlaneNet$Wide"
theorem nk_Pt : ∀ a, a < 5 → ∀ b, b < 5 → a ≠ b → (F_Pt a).2.1 ≠ (F_Pt b).2.1 := by decide +kernel
theorem tk_Pt : ∀ k, k < 5 → parseFieldDescriptor (F_Pt k).2.2.1 = some (t_Pt k) := by decide +kernel
theorem in_Pt : ∀ w ∈ u_ws R_Pt F_Pt 5, w ∈ TT := fun w h => mem_TT ((by decide +kernel : ∀ w ∈ u_ws R_Pt F_Pt 5, w ∈ lw_tbl) w h) ((by decide +kernel : ∀ w ∈ u_ws R_Pt F_Pt 5, goodWord w = true) w h)
def R_Wd : String := "PlaneNet$Wide"
def F_Wd : u_T := fun k => match k with
  | 0 => ("PlaneNet$Wide", "high", "J", false)
  | _ => ("PlaneNet$Wide", "low", "J", false)
def t_Wd : Nat → FieldType := fun k => match k with
  | 0 => .long
  | _ => .long
theorem nk_Wd : ∀ a, a < 2 → ∀ b, b < 2 → a ≠ b → (F_Wd a).2.1 ≠ (F_Wd b).2.1 := by decide +kernel
theorem tk_Wd : ∀ k, k < 2 → parseFieldDescriptor (F_Wd k).2.2.1 = some (t_Wd k) := by decide +kernel
theorem in_Wd : ∀ w ∈ u_ws R_Wd F_Wd 2, w ∈ TT := fun w h => mem_TT ((by decide +kernel : ∀ w ∈ u_ws R_Wd F_Wd 2, w ∈ lw_tbl) w h) ((by decide +kernel : ∀ w ∈ u_ws R_Wd F_Wd 2, goodWord w = true) w h)
def R_Nt : String := "PlaneNet$Net"
def F_Nt : u_T := fun k => match k with
  | 0 => ("PlaneNet$Net", "points", "LPlaneNet$Points;", true)
  | 1 => ("PlaneNet$Net", "ghost", "I", true)
  | 2 => ("PlaneNet$Net", "starts", "LPlaneNet$Row;", true)
  | 3 => ("PlaneNet$Net", "twins", "LPlaneNet$Row;", true)
  | 4 => ("PlaneNet$Net", "leaving", "LPlaneNet$Row;", true)
  | 5 => ("PlaneNet$Net", "marks", "LPlaneNet$Row;", true)
  | 6 => ("PlaneNet$Net", "pit", "LPlaneNet$Row;", true)
  | 7 => ("PlaneNet$Net", "rim", "LPlaneNet$Row;", true)
  | 8 => ("PlaneNet$Net", "mark", "I", false)
  | 9 => ("PlaneNet$Net", "all", "I", false)
  | 10 => ("PlaneNet$Net", "outer", "I", false)
  | 11 => ("PlaneNet$Net", "pitSize", "I", false)
  | _ => ("PlaneNet$Net", "rimSize", "I", false)
def t_Nt : Nat → FieldType := fun k => match k with
  | 0 => .object "PlaneNet$Points"
  | 1 => .int
  | 2 => .object "PlaneNet$Row"
  | 3 => .object "PlaneNet$Row"
  | 4 => .object "PlaneNet$Row"
  | 5 => .object "PlaneNet$Row"
  | 6 => .object "PlaneNet$Row"
  | 7 => .object "PlaneNet$Row"
  | 8 => .int
  | 9 => .int
  | 10 => .int
  | 11 => .int
  | _ => .int
theorem nk_Nt : ∀ a, a < 13 → ∀ b, b < 13 → a ≠ b → (F_Nt a).2.1 ≠ (F_Nt b).2.1 := by decide +kernel
theorem tk_Nt : ∀ k, k < 13 → parseFieldDescriptor (F_Nt k).2.2.1 = some (t_Nt k) := by decide +kernel
theorem in_Nt : ∀ w ∈ u_ws R_Nt F_Nt 13, w ∈ TT := fun w h => mem_TT ((by decide +kernel : ∀ w ∈ u_ws R_Nt F_Nt 13, w ∈ lw_tbl) w h) ((by decide +kernel : ∀ w ∈ u_ws R_Nt F_Nt 13, goodWord w = true) w h)
def R_Rl : String := "PlaneNet$Roll"
def F_Rl : u_T := fun k => match k with
  | 0 => ("PlaneNet$Roll", "points", "LPlaneNet$Points;", true)
  | 1 => ("PlaneNet$Roll", "net", "LPlaneNet$Net;", true)
  | 2 => ("PlaneNet$Roll", "edges", "LPlaneNet$Row;", true)
  | 3 => ("PlaneNet$Roll", "spare", "LPlaneNet$Row;", true)
  | 4 => ("PlaneNet$Roll", "ends", "LPlaneNet$Row;", true)
  | _ => ("PlaneNet$Roll", "fresh", "Z", false)
def t_Rl : Nat → FieldType := fun k => match k with
  | 0 => .object "PlaneNet$Points"
  | 1 => .object "PlaneNet$Net"
  | 2 => .object "PlaneNet$Row"
  | 3 => .object "PlaneNet$Row"
  | 4 => .object "PlaneNet$Row"
  | _ => .boolean
theorem nk_Rl : ∀ a, a < 6 → ∀ b, b < 6 → a ≠ b → (F_Rl a).2.1 ≠ (F_Rl b).2.1 := by decide +kernel
theorem tk_Rl : ∀ k, k < 6 → parseFieldDescriptor (F_Rl k).2.2.1 = some (t_Rl k) := by decide +kernel
theorem in_Rl : ∀ w ∈ u_ws R_Rl F_Rl 6, w ∈ TT := fun w h => mem_TT ((by decide +kernel : ∀ w ∈ u_ws R_Rl F_Rl 6, w ∈ lw_tbl) w h) ((by decide +kernel : ∀ w ∈ u_ws R_Rl F_Rl 6, goodWord w = true) w h)
def R_Ol : String := "PlaneNet$Outline"
def F_Ol : u_T := fun k => match k with
  | 0 => ("PlaneNet$Outline", "points", "LPlaneNet$Points;", true)
  | 1 => ("PlaneNet$Outline", "net", "LPlaneNet$Net;", true)
  | 2 => ("PlaneNet$Outline", "corners", "LPlaneNet$Row;", true)
  | 3 => ("PlaneNet$Outline", "size", "I", false)
  | _ => ("PlaneNet$Outline", "fresh", "Z", false)
def t_Ol : Nat → FieldType := fun k => match k with
  | 0 => .object "PlaneNet$Points"
  | 1 => .object "PlaneNet$Net"
  | 2 => .object "PlaneNet$Row"
  | 3 => .int
  | _ => .boolean
theorem nk_Ol : ∀ a, a < 5 → ∀ b, b < 5 → a ≠ b → (F_Ol a).2.1 ≠ (F_Ol b).2.1 := by decide +kernel
theorem tk_Ol : ∀ k, k < 5 → parseFieldDescriptor (F_Ol k).2.2.1 = some (t_Ol k) := by decide +kernel
theorem in_Ol : ∀ w ∈ u_ws R_Ol F_Ol 5, w ∈ TT := fun w h => mem_TT ((by decide +kernel : ∀ w ∈ u_ws R_Ol F_Ol 5, w ∈ lw_tbl) w h) ((by decide +kernel : ∀ w ∈ u_ws R_Ol F_Ol 5, goodWord w = true) w h)
def R_Rw : String := "PlaneNet$Row"
def F_Rw : u_T := fun k => match k with
  | 0 => ("PlaneNet$Row", "pages", "[[I", true)
  | _ => ("PlaneNet$Row", "made", "I", false)
def t_Rw : Nat → FieldType := fun k => match k with
  | 0 => .array (.array .int)
  | _ => .int
theorem nk_Rw : ∀ a, a < 2 → ∀ b, b < 2 → a ≠ b → (F_Rw a).2.1 ≠ (F_Rw b).2.1 := by decide +kernel
theorem tk_Rw : ∀ k, k < 2 → parseFieldDescriptor (F_Rw k).2.2.1 = some (t_Rw k) := by decide +kernel
theorem in_Rw : ∀ w ∈ u_ws R_Rw F_Rw 2, w ∈ TT := fun w h => mem_TT ((by decide +kernel : ∀ w ∈ u_ws R_Rw F_Rw 2, w ∈ lw_tbl) w h) ((by decide +kernel : ∀ w ∈ u_ws R_Rw F_Rw 2, goodWord w = true) w h)
def R_Md : String := "PlaneNetModel"
def F_Md : u_T := fun k => match k with
  | 0 => ("PlaneNetModel", "thrown", "I", false)
  | 1 => ("PlaneNetModel", "most", "I", true)
  | 2 => ("PlaneNetModel", "n", "I", false)
  | 3 => ("PlaneNetModel", "xs", "[I", true)
  | 4 => ("PlaneNetModel", "ys", "[I", true)
  | 5 => ("PlaneNetModel", "known", "Z", false)
  | 6 => ("PlaneNetModel", "triangles", "I", false)
  | 7 => ("PlaneNetModel", "t0", "[I", true)
  | 8 => ("PlaneNetModel", "t1", "[I", true)
  | 9 => ("PlaneNetModel", "t2", "[I", true)
  | 10 => ("PlaneNetModel", "corners", "I", false)
  | 11 => ("PlaneNetModel", "corner", "[I", true)
  | 12 => ("PlaneNetModel", "sides", "I", false)
  | 13 => ("PlaneNetModel", "looked", "I", false)
  | 14 => ("PlaneNetModel", "from", "[I", true)
  | 15 => ("PlaneNetModel", "to", "[I", true)
  | 16 => ("PlaneNetModel", "celled", "I", false)
  | 17 => ("PlaneNetModel", "cell", "[I", true)
  | 18 => ("PlaneNetModel", "d0", "J", false)
  | 19 => ("PlaneNetModel", "d1", "J", false)
  | 20 => ("PlaneNetModel", "d2", "J", false)
  | 21 => ("PlaneNetModel", "d3", "J", false)
  | 22 => ("PlaneNetModel", "d4", "J", false)
  | 23 => ("PlaneNetModel", "near", "I", false)
  | 24 => ("PlaneNetModel", "row", "[I", true)
  | _ => ("PlaneNetModel", "located", "[I", true)
def t_Md : Nat → FieldType := fun k => match k with
  | 0 => .int
  | 1 => .int
  | 2 => .int
  | 3 => .array .int
  | 4 => .array .int
  | 5 => .boolean
  | 6 => .int
  | 7 => .array .int
  | 8 => .array .int
  | 9 => .array .int
  | 10 => .int
  | 11 => .array .int
  | 12 => .int
  | 13 => .int
  | 14 => .array .int
  | 15 => .array .int
  | 16 => .int
  | 17 => .array .int
  | 18 => .long
  | 19 => .long
  | 20 => .long
  | 21 => .long
  | 22 => .long
  | 23 => .int
  | 24 => .array .int
  | _ => .array .int
theorem nk_Md : ∀ a, a < 26 → ∀ b, b < 26 → a ≠ b → (F_Md a).2.1 ≠ (F_Md b).2.1 := by decide +kernel
theorem tk_Md : ∀ k, k < 26 → parseFieldDescriptor (F_Md k).2.2.1 = some (t_Md k) := by decide +kernel
theorem in_Md : ∀ w ∈ u_ws R_Md F_Md 26, w ∈ TT := fun w h => mem_TT ((by decide +kernel : ∀ w ∈ u_ws R_Md F_Md 26, w ∈ lw_tbl) w h) ((by decide +kernel : ∀ w ∈ u_ws R_Md F_Md 26, goodWord w = true) w h)
abbrev clC : List vw_C := [(R_Pn, F_Pn, 8), (R_Pt, F_Pt, 5), (R_Wd, F_Wd, 2), (R_Nt, F_Nt, 13), (R_Rl, F_Rl, 6), (R_Ol, F_Ol, 5), (R_Rw, F_Rw, 2), (R_Md, F_Md, 26)]
theorem wd_0 : (Cond.selects "PlaneNet" (⟨"PlaneNet", "forgetAnswers", "()V"⟩ : MethodName) (⟨"PlaneNet", "forgetAnswers", "()V"⟩ : MethodName)) ∈ TT := mem_TT (List.mem_of_getElem? (i := 0) (by decide +kernel)) (by decide +kernel)
theorem wd_1 : (Cond.selects "PlaneNet" (⟨"PlaneNet", "forgetFound", "()V"⟩ : MethodName) (⟨"PlaneNet", "forgetFound", "()V"⟩ : MethodName)) ∈ TT := mem_TT (List.mem_of_getElem? (i := 1) (by decide +kernel)) (by decide +kernel)
theorem wd_2 : (Cond.selects "PlaneNet$Outline" (⟨"PlaneNet$Outline", "draw", "()V"⟩ : MethodName) (⟨"PlaneNet$Outline", "draw", "()V"⟩ : MethodName)) ∈ TT := mem_TT (List.mem_of_getElem? (i := 2) (by decide +kernel)) (by decide +kernel)
theorem wd_3 : (Cond.selects "PlaneNet$Outline" (⟨"PlaneNet$Outline", "drawLine", "()V"⟩ : MethodName) (⟨"PlaneNet$Outline", "drawLine", "()V"⟩ : MethodName)) ∈ TT := mem_TT (List.mem_of_getElem? (i := 3) (by decide +kernel)) (by decide +kernel)
theorem wd_4 : (Cond.selects "PlaneNet$Points" (⟨"PlaneNet$Points", "isAbove", "(III)Z"⟩ : MethodName) (⟨"PlaneNet$Points", "isAbove", "(III)Z"⟩ : MethodName)) ∈ TT := mem_TT (List.mem_of_getElem? (i := 4) (by decide +kernel)) (by decide +kernel)
theorem wd_5 : (Cond.selects "PlaneNet$Points" (⟨"PlaneNet$Points", "isBelow", "(III)Z"⟩ : MethodName) (⟨"PlaneNet$Points", "isBelow", "(III)Z"⟩ : MethodName)) ∈ TT := mem_TT (List.mem_of_getElem? (i := 5) (by decide +kernel)) (by decide +kernel)
theorem wd_6 : (Cond.selects "PlaneNet$Outline" (⟨"PlaneNet$Outline", "put", "(I)V"⟩ : MethodName) (⟨"PlaneNet$Outline", "put", "(I)V"⟩ : MethodName)) ∈ TT := mem_TT (List.mem_of_getElem? (i := 6) (by decide +kernel)) (by decide +kernel)
theorem wd_7 : (Cond.selects "PlaneNet$Outline" (⟨"PlaneNet$Outline", "drawRound", "()V"⟩ : MethodName) (⟨"PlaneNet$Outline", "drawRound", "()V"⟩ : MethodName)) ∈ TT := mem_TT (List.mem_of_getElem? (i := 7) (by decide +kernel)) (by decide +kernel)
theorem wd_8 : (Cond.selects "PlaneNet$Net" (⟨"PlaneNet$Net", "placeOf", "(I)I"⟩ : MethodName) (⟨"PlaneNet$Net", "placeOf", "(I)I"⟩ : MethodName)) ∈ TT := mem_TT (List.mem_of_getElem? (i := 8) (by decide +kernel)) (by decide +kernel)
theorem wd_9 : (Cond.selects "PlaneNet$Net" (⟨"PlaneNet$Net", "leftOf", "(I)I"⟩ : MethodName) (⟨"PlaneNet$Net", "leftOf", "(I)I"⟩ : MethodName)) ∈ TT := mem_TT (List.mem_of_getElem? (i := 9) (by decide +kernel)) (by decide +kernel)
theorem wd_10 : (Cond.selects "PlaneNet$Outline" (⟨"PlaneNet$Outline", "isCorner", "(III)Z"⟩ : MethodName) (⟨"PlaneNet$Outline", "isCorner", "(III)Z"⟩ : MethodName)) ∈ TT := mem_TT (List.mem_of_getElem? (i := 10) (by decide +kernel)) (by decide +kernel)
theorem wd_12 : (Cond.selects "PlaneNet" (⟨"PlaneNet", "makeRoom", "(I)V"⟩ : MethodName) (⟨"PlaneNet", "makeRoom", "(I)V"⟩ : MethodName)) ∈ TT := mem_TT (List.mem_of_getElem? (i := 12) (by decide +kernel)) (by decide +kernel)
theorem wd_13 : (Cond.selects "PlaneNet" (⟨"PlaneNet", "noteClosest", "(II)V"⟩ : MethodName) (⟨"PlaneNet", "noteClosest", "(II)V"⟩ : MethodName)) ∈ TT := mem_TT (List.mem_of_getElem? (i := 13) (by decide +kernel)) (by decide +kernel)
theorem wd_14 : (Cond.selects "PlaneNet" (⟨"PlaneNet", "tryToBeginNet", "(I)V"⟩ : MethodName) (⟨"PlaneNet", "tryToBeginNet", "(I)V"⟩ : MethodName)) ∈ TT := mem_TT (List.mem_of_getElem? (i := 14) (by decide +kernel)) (by decide +kernel)
theorem wd_15 : (Cond.selects "PlaneNet$Net" (⟨"PlaneNet$Net", "setTriangle", "(IIII)V"⟩ : MethodName) (⟨"PlaneNet$Net", "setTriangle", "(IIII)V"⟩ : MethodName)) ∈ TT := mem_TT (List.mem_of_getElem? (i := 15) (by decide +kernel)) (by decide +kernel)
theorem wd_16 : (Cond.selects "PlaneNet$Net" (⟨"PlaneNet$Net", "join", "(II)V"⟩ : MethodName) (⟨"PlaneNet$Net", "join", "(II)V"⟩ : MethodName)) ∈ TT := mem_TT (List.mem_of_getElem? (i := 16) (by decide +kernel)) (by decide +kernel)
theorem wd_17 : (Cond.selects "PlaneNet$Net" (⟨"PlaneNet$Net", "baseOf", "(I)I"⟩ : MethodName) (⟨"PlaneNet$Net", "baseOf", "(I)I"⟩ : MethodName)) ∈ TT := mem_TT (List.mem_of_getElem? (i := 17) (by decide +kernel)) (by decide +kernel)
theorem wd_18 : (Cond.selects "PlaneNet$Net" (⟨"PlaneNet$Net", "wayOut", "(III)I"⟩ : MethodName) (⟨"PlaneNet$Net", "wayOut", "(III)I"⟩ : MethodName)) ∈ TT := mem_TT (List.mem_of_getElem? (i := 18) (by decide +kernel)) (by decide +kernel)
theorem wd_19 : (Cond.selects "PlaneNet$Net" (⟨"PlaneNet$Net", "dig", "(II)V"⟩ : MethodName) (⟨"PlaneNet$Net", "dig", "(II)V"⟩ : MethodName)) ∈ TT := mem_TT (List.mem_of_getElem? (i := 19) (by decide +kernel)) (by decide +kernel)
theorem wd_20 : (Cond.selects "PlaneNet$Net" (⟨"PlaneNet$Net", "takeAway", "(I)V"⟩ : MethodName) (⟨"PlaneNet$Net", "takeAway", "(I)V"⟩ : MethodName)) ∈ TT := mem_TT (List.mem_of_getElem? (i := 20) (by decide +kernel)) (by decide +kernel)
theorem wd_21 : (Cond.selects "PlaneNet$Net" (⟨"PlaneNet$Net", "isSeen", "(II)Z"⟩ : MethodName) (⟨"PlaneNet$Net", "isSeen", "(II)Z"⟩ : MethodName)) ∈ TT := mem_TT (List.mem_of_getElem? (i := 21) (by decide +kernel)) (by decide +kernel)
theorem wd_22 : (Cond.selects "PlaneNet$Points" (⟨"PlaneNet$Points", "dot", "(III)J"⟩ : MethodName) (⟨"PlaneNet$Points", "dot", "(III)J"⟩ : MethodName)) ∈ TT := mem_TT (List.mem_of_getElem? (i := 22) (by decide +kernel)) (by decide +kernel)
theorem wd_23 : (Cond.selects "PlaneNet$Net" (⟨"PlaneNet$Net", "fill", "(I)V"⟩ : MethodName) (⟨"PlaneNet$Net", "fill", "(I)V"⟩ : MethodName)) ∈ TT := mem_TT (List.mem_of_getElem? (i := 23) (by decide +kernel)) (by decide +kernel)
theorem wd_24 : (Cond.selects "PlaneNet$Roll" (⟨"PlaneNet$Roll", "sortAll", "()V"⟩ : MethodName) (⟨"PlaneNet$Roll", "sortAll", "()V"⟩ : MethodName)) ∈ TT := mem_TT (List.mem_of_getElem? (i := 24) (by decide +kernel)) (by decide +kernel)
theorem wd_25 : (Cond.selects "PlaneNet$Roll" (⟨"PlaneNet$Roll", "gather", "()I"⟩ : MethodName) (⟨"PlaneNet$Roll", "gather", "()I"⟩ : MethodName)) ∈ TT := mem_TT (List.mem_of_getElem? (i := 25) (by decide +kernel)) (by decide +kernel)
theorem wd_26 : (Cond.selects "PlaneNet$Roll" (⟨"PlaneNet$Roll", "sortInto", "(LPlaneNet$Row;LPlaneNet$Row;II)V"⟩ : MethodName) (⟨"PlaneNet$Roll", "sortInto", "(LPlaneNet$Row;LPlaneNet$Row;II)V"⟩ : MethodName)) ∈ TT := mem_TT (List.mem_of_getElem? (i := 26) (by decide +kernel)) (by decide +kernel)
theorem wd_27 : (Cond.selects "PlaneNet" (⟨"PlaneNet", "checkNumber", "(I)V"⟩ : MethodName) (⟨"PlaneNet", "checkNumber", "(I)V"⟩ : MethodName)) ∈ TT := mem_TT (List.mem_of_getElem? (i := 27) (by decide +kernel)) (by decide +kernel)
theorem wd_28 : (Cond.selects "PlaneNet" (⟨"PlaneNet", "neighbourCount", "(I)I"⟩ : MethodName) (⟨"PlaneNet", "neighbourCount", "(I)I"⟩ : MethodName)) ∈ TT := mem_TT (List.mem_of_getElem? (i := 28) (by decide +kernel)) (by decide +kernel)
theorem wd_29 : (Cond.selects "PlaneNet" (⟨"PlaneNet", "neighbourOnLine", "(II)I"⟩ : MethodName) (⟨"PlaneNet", "neighbourOnLine", "(II)I"⟩ : MethodName)) ∈ TT := mem_TT (List.mem_of_getElem? (i := 29) (by decide +kernel)) (by decide +kernel)
theorem wd_30 : (Cond.selects "PlaneNet$Net" (⟨"PlaneNet$Net", "lowestFrom", "(I)I"⟩ : MethodName) (⟨"PlaneNet$Net", "lowestFrom", "(I)I"⟩ : MethodName)) ∈ TT := mem_TT (List.mem_of_getElem? (i := 30) (by decide +kernel)) (by decide +kernel)
theorem wd_31 : (Cond.selects "PlaneNet" (⟨"PlaneNet", "locateOnLine", "(II)I"⟩ : MethodName) (⟨"PlaneNet", "locateOnLine", "(II)I"⟩ : MethodName)) ∈ TT := mem_TT (List.mem_of_getElem? (i := 31) (by decide +kernel)) (by decide +kernel)
theorem wd_32 : (Cond.selects "PlaneNet" (⟨"PlaneNet", "foundBetween", "(II)I"⟩ : MethodName) (⟨"PlaneNet", "foundBetween", "(II)I"⟩ : MethodName)) ∈ TT := mem_TT (List.mem_of_getElem? (i := 32) (by decide +kernel)) (by decide +kernel)
theorem wd_33 : (Cond.selects "PlaneNet" (⟨"PlaneNet", "locateInNet", "(III)I"⟩ : MethodName) (⟨"PlaneNet", "locateInNet", "(III)I"⟩ : MethodName)) ∈ TT := mem_TT (List.mem_of_getElem? (i := 33) (by decide +kernel)) (by decide +kernel)
theorem wd_34 : (Cond.selects "PlaneNetModel" (⟨"PlaneNetModel", "fail", "(I)I"⟩ : MethodName) (⟨"PlaneNetModel", "fail", "(I)I"⟩ : MethodName)) ∈ TT := mem_TT (List.mem_of_getElem? (i := 34) (by decide +kernel)) (by decide +kernel)
theorem wd_35 : (Cond.selects "PlaneNetModel" (⟨"PlaneNetModel", "findPoint", "(II)I"⟩ : MethodName) (⟨"PlaneNetModel", "findPoint", "(II)I"⟩ : MethodName)) ∈ TT := mem_TT (List.mem_of_getElem? (i := 35) (by decide +kernel)) (by decide +kernel)
theorem wd_36 : (Cond.selects "PlaneNetModel" (⟨"PlaneNetModel", "forget", "()V"⟩ : MethodName) (⟨"PlaneNetModel", "forget", "()V"⟩ : MethodName)) ∈ TT := mem_TT (List.mem_of_getElem? (i := 36) (by decide +kernel)) (by decide +kernel)
theorem wd_37 : (Cond.selects "PlaneNetModel" (⟨"PlaneNetModel", "know", "()V"⟩ : MethodName) (⟨"PlaneNetModel", "know", "()V"⟩ : MethodName)) ∈ TT := mem_TT (List.mem_of_getElem? (i := 37) (by decide +kernel)) (by decide +kernel)
theorem wd_38 : (Cond.selects "PlaneNetModel" (⟨"PlaneNetModel", "findCorners", "()V"⟩ : MethodName) (⟨"PlaneNetModel", "findCorners", "()V"⟩ : MethodName)) ∈ TT := mem_TT (List.mem_of_getElem? (i := 38) (by decide +kernel)) (by decide +kernel)
theorem wd_39 : (Cond.selects "PlaneNetModel" (⟨"PlaneNetModel", "least", "()I"⟩ : MethodName) (⟨"PlaneNetModel", "least", "()I"⟩ : MethodName)) ∈ TT := mem_TT (List.mem_of_getElem? (i := 39) (by decide +kernel)) (by decide +kernel)
theorem wd_40 : (Cond.selects "PlaneNetModel" (⟨"PlaneNetModel", "isLess", "(II)Z"⟩ : MethodName) (⟨"PlaneNetModel", "isLess", "(II)Z"⟩ : MethodName)) ∈ TT := mem_TT (List.mem_of_getElem? (i := 40) (by decide +kernel)) (by decide +kernel)
theorem wd_41 : (Cond.selects "PlaneNetModel" (⟨"PlaneNetModel", "cornerBehind", "(I)I"⟩ : MethodName) (⟨"PlaneNetModel", "cornerBehind", "(I)I"⟩ : MethodName)) ∈ TT := mem_TT (List.mem_of_getElem? (i := 41) (by decide +kernel)) (by decide +kernel)
theorem wd_42 : (Cond.selects "PlaneNetModel" (⟨"PlaneNetModel", "sideOf", "(III)I"⟩ : MethodName) (⟨"PlaneNetModel", "sideOf", "(III)I"⟩ : MethodName)) ∈ TT := mem_TT (List.mem_of_getElem? (i := 42) (by decide +kernel)) (by decide +kernel)
theorem wd_43 : (Cond.selects "PlaneNetModel" (⟨"PlaneNetModel", "side", "(IIII)I"⟩ : MethodName) (⟨"PlaneNetModel", "side", "(IIII)I"⟩ : MethodName)) ∈ TT := mem_TT (List.mem_of_getElem? (i := 43) (by decide +kernel)) (by decide +kernel)
theorem wd_44 : (Cond.selects "PlaneNetModel" (⟨"PlaneNetModel", "apart", "(III)J"⟩ : MethodName) (⟨"PlaneNetModel", "apart", "(III)J"⟩ : MethodName)) ∈ TT := mem_TT (List.mem_of_getElem? (i := 44) (by decide +kernel)) (by decide +kernel)
theorem wd_45 : (Cond.selects "PlaneNetModel" (⟨"PlaneNetModel", "look", "(II)V"⟩ : MethodName) (⟨"PlaneNetModel", "look", "(II)V"⟩ : MethodName)) ∈ TT := mem_TT (List.mem_of_getElem? (i := 45) (by decide +kernel)) (by decide +kernel)
theorem wd_46 : (Cond.selects "PlaneNetModel" (⟨"PlaneNetModel", "isSide", "(II)Z"⟩ : MethodName) (⟨"PlaneNetModel", "isSide", "(II)Z"⟩ : MethodName)) ∈ TT := mem_TT (List.mem_of_getElem? (i := 46) (by decide +kernel)) (by decide +kernel)
theorem wd_47 : (Cond.selects "PlaneNetModel" (⟨"PlaneNetModel", "inCircle", "(IIII)I"⟩ : MethodName) (⟨"PlaneNetModel", "inCircle", "(IIII)I"⟩ : MethodName)) ∈ TT := mem_TT (List.mem_of_getElem? (i := 47) (by decide +kernel)) (by decide +kernel)
theorem wd_48 : (Cond.selects "PlaneNetModel" (⟨"PlaneNetModel", "part", "(IIII)V"⟩ : MethodName) (⟨"PlaneNetModel", "part", "(IIII)V"⟩ : MethodName)) ∈ TT := mem_TT (List.mem_of_getElem? (i := 48) (by decide +kernel)) (by decide +kernel)
theorem wd_49 : (Cond.selects "PlaneNetModel" (⟨"PlaneNetModel", "product", "(JJ)V"⟩ : MethodName) (⟨"PlaneNetModel", "product", "(JJ)V"⟩ : MethodName)) ∈ TT := mem_TT (List.mem_of_getElem? (i := 49) (by decide +kernel)) (by decide +kernel)
theorem wd_50 : (Cond.selects "PlaneNetModel" (⟨"PlaneNetModel", "signOfSum", "()I"⟩ : MethodName) (⟨"PlaneNetModel", "signOfSum", "()I"⟩ : MethodName)) ∈ TT := mem_TT (List.mem_of_getElem? (i := 50) (by decide +kernel)) (by decide +kernel)
theorem wd_51 : (Cond.selects "PlaneNetModel" (⟨"PlaneNetModel", "findCell", "(III)V"⟩ : MethodName) (⟨"PlaneNetModel", "findCell", "(III)V"⟩ : MethodName)) ∈ TT := mem_TT (List.mem_of_getElem? (i := 51) (by decide +kernel)) (by decide +kernel)
theorem wd_52 : (Cond.selects "PlaneNetModel" (⟨"PlaneNetModel", "isCelled", "(I)Z"⟩ : MethodName) (⟨"PlaneNetModel", "isCelled", "(I)Z"⟩ : MethodName)) ∈ TT := mem_TT (List.mem_of_getElem? (i := 52) (by decide +kernel)) (by decide +kernel)
theorem wd_53 : (Cond.selects "PlaneNetModel" (⟨"PlaneNetModel", "tell", "(III)V"⟩ : MethodName) (⟨"PlaneNetModel", "tell", "(III)V"⟩ : MethodName)) ∈ TT := mem_TT (List.mem_of_getElem? (i := 53) (by decide +kernel)) (by decide +kernel)
theorem wd_54 : (Cond.selects "PlaneNetModel" (⟨"PlaneNetModel", "sort", "()V"⟩ : MethodName) (⟨"PlaneNetModel", "sort", "()V"⟩ : MethodName)) ∈ TT := mem_TT (List.mem_of_getElem? (i := 54) (by decide +kernel)) (by decide +kernel)
theorem wd_55 : (Cond.selects "PlaneNetModel" (⟨"PlaneNetModel", "isBefore", "(II)Z"⟩ : MethodName) (⟨"PlaneNetModel", "isBefore", "(II)Z"⟩ : MethodName)) ∈ TT := mem_TT (List.mem_of_getElem? (i := 55) (by decide +kernel)) (by decide +kernel)
theorem wd_56 : (Cond.selects "PlaneNetModel" (⟨"PlaneNetModel", "swap", "(I)V"⟩ : MethodName) (⟨"PlaneNetModel", "swap", "(I)V"⟩ : MethodName)) ∈ TT := mem_TT (List.mem_of_getElem? (i := 56) (by decide +kernel)) (by decide +kernel)
theorem wd_57 : (Cond.selects "PlaneNetModel" (⟨"PlaneNetModel", "findNeighbours", "(I)V"⟩ : MethodName) (⟨"PlaneNetModel", "findNeighbours", "(I)V"⟩ : MethodName)) ∈ TT := mem_TT (List.mem_of_getElem? (i := 57) (by decide +kernel)) (by decide +kernel)
theorem wd_58 : (Cond.selects "PlaneNetModel" (⟨"PlaneNetModel", "areNeighbours", "(II)Z"⟩ : MethodName) (⟨"PlaneNetModel", "areNeighbours", "(II)Z"⟩ : MethodName)) ∈ TT := mem_TT (List.mem_of_getElem? (i := 58) (by decide +kernel)) (by decide +kernel)
theorem wd_59 : (Cond.selects "PlaneNetModel" (⟨"PlaneNetModel", "isOn", "(IIII)Z"⟩ : MethodName) (⟨"PlaneNetModel", "isOn", "(IIII)Z"⟩ : MethodName)) ∈ TT := mem_TT (List.mem_of_getElem? (i := 59) (by decide +kernel)) (by decide +kernel)
theorem wd_60 : (Cond.selects "PlaneNetModel" (⟨"PlaneNetModel", "isIn", "(II)Z"⟩ : MethodName) (⟨"PlaneNetModel", "isIn", "(II)Z"⟩ : MethodName)) ∈ TT := mem_TT (List.mem_of_getElem? (i := 60) (by decide +kernel)) (by decide +kernel)
theorem wd_61 : (Cond.selects "PlaneNetModel" (⟨"PlaneNetModel", "isSooner", "(IIII)Z"⟩ : MethodName) (⟨"PlaneNetModel", "isSooner", "(IIII)Z"⟩ : MethodName)) ∈ TT := mem_TT (List.mem_of_getElem? (i := 61) (by decide +kernel)) (by decide +kernel)
theorem wd_62 : (Cond.selects "PlaneNetModel" (⟨"PlaneNetModel", "found", "(IIII)I"⟩ : MethodName) (⟨"PlaneNetModel", "found", "(IIII)I"⟩ : MethodName)) ∈ TT := mem_TT (List.mem_of_getElem? (i := 62) (by decide +kernel)) (by decide +kernel)
theorem wd_64 : (Cond.initialized "PlaneNet") ∈ TT := mem_TT (List.mem_of_getElem? (i := 64) (by decide +kernel)) (by decide +kernel)
theorem wd_65 : (Cond.initialized "PlaneNet$Points") ∈ TT := mem_TT (List.mem_of_getElem? (i := 65) (by decide +kernel)) (by decide +kernel)
theorem wd_66 : (Cond.initialized "java/lang/Math") ∈ TT := mem_TT (List.mem_of_getElem? (i := 66) (by decide +kernel)) (by decide +kernel)
theorem wd_67 : (Cond.initialized "PlaneNet$Row") ∈ TT := mem_TT (List.mem_of_getElem? (i := 67) (by decide +kernel)) (by decide +kernel)
theorem wd_68 : (Cond.initialized "PlaneNet$Wide") ∈ TT := mem_TT (List.mem_of_getElem? (i := 68) (by decide +kernel)) (by decide +kernel)
theorem wd_69 : (Cond.initialized "PlaneNet$Net") ∈ TT := mem_TT (List.mem_of_getElem? (i := 69) (by decide +kernel)) (by decide +kernel)
theorem wd_70 : (Cond.initialized "PlaneNet$Roll") ∈ TT := mem_TT (List.mem_of_getElem? (i := 70) (by decide +kernel)) (by decide +kernel)
theorem wd_71 : (Cond.initialized "PlaneNet$Outline") ∈ TT := mem_TT (List.mem_of_getElem? (i := 71) (by decide +kernel)) (by decide +kernel)
theorem wd_72 : (Cond.initialized "PlaneNetModel") ∈ TT := mem_TT (List.mem_of_getElem? (i := 72) (by decide +kernel)) (by decide +kernel)
theorem wd_78 : (Cond.initialized "java/util/Arrays") ∈ TT := mem_TT (List.mem_of_getElem? (i := 78) (by decide +kernel)) (by decide +kernel)
theorem wd_84 : (Cond.code (⟨"PlaneNet", "<init>", "(I)V"⟩ : MethodName) prog_1_method_1_code 2 (Option.none : Option ClassFile.FieldType)) ∈ TT := mem_TT (List.mem_of_getElem? (i := 84) (by decide +kernel)) (by decide +kernel)
theorem wd_85 : (Cond.methodLink "PlaneNet" 3 (⟨"java/lang/Object", "<init>", "()V"⟩ : MethodName)) ∈ TT := mem_TT (List.mem_of_getElem? (i := 85) (by decide +kernel)) (by decide +kernel)
theorem wd_86 : (Cond.instanceMethod (⟨"java/lang/Object", "<init>", "()V"⟩ : MethodName)) ∈ TT := mem_TT (List.mem_of_getElem? (i := 86) (by decide +kernel)) (by decide +kernel)
theorem wd_87 : (Cond.code (⟨"java/lang/Object", "<init>", "()V"⟩ : MethodName) object_method_1_code 1 (Option.none : Option ClassFile.FieldType)) ∈ TT := mem_TT (List.mem_of_getElem? (i := 87) (by decide +kernel)) (by decide +kernel)
theorem wd_88 : (Cond.classLink "PlaneNet" 9 "PlaneNet$Points") ∈ TT := mem_TT (List.mem_of_getElem? (i := 88) (by decide +kernel)) (by decide +kernel)
theorem wd_89 : (Cond.instantiable "PlaneNet$Points" 5) ∈ TT := mem_TT (List.mem_of_getElem? (i := 89) (by decide +kernel)) (by decide +kernel)
theorem wd_90 : (Cond.methodLink "PlaneNet" 11 (⟨"java/lang/Math", "min", "(II)I"⟩ : MethodName)) ∈ TT := mem_TT (List.mem_of_getElem? (i := 90) (by decide +kernel)) (by decide +kernel)
theorem wd_91 : (Cond.static (⟨"java/lang/Math", "min", "(II)I"⟩ : MethodName)) ∈ TT := mem_TT (List.mem_of_getElem? (i := 91) (by decide +kernel)) (by decide +kernel)
theorem wd_92 : (Cond.code (⟨"java/lang/Math", "min", "(II)I"⟩ : MethodName) prog_14_method_69_code 2 (Option.some .int)) ∈ TT := mem_TT (List.mem_of_getElem? (i := 92) (by decide +kernel)) (by decide +kernel)
theorem wd_93 : (Cond.methodLink "PlaneNet" 17 (⟨"java/lang/Math", "max", "(II)I"⟩ : MethodName)) ∈ TT := mem_TT (List.mem_of_getElem? (i := 93) (by decide +kernel)) (by decide +kernel)
theorem wd_94 : (Cond.static (⟨"java/lang/Math", "max", "(II)I"⟩ : MethodName)) ∈ TT := mem_TT (List.mem_of_getElem? (i := 94) (by decide +kernel)) (by decide +kernel)
theorem wd_95 : (Cond.code (⟨"java/lang/Math", "max", "(II)I"⟩ : MethodName) prog_14_method_65_code 2 (Option.some .int)) ∈ TT := mem_TT (List.mem_of_getElem? (i := 95) (by decide +kernel)) (by decide +kernel)
theorem wd_96 : (Cond.methodLink "PlaneNet" 20 (⟨"PlaneNet$Points", "<init>", "(I)V"⟩ : MethodName)) ∈ TT := mem_TT (List.mem_of_getElem? (i := 96) (by decide +kernel)) (by decide +kernel)
theorem wd_97 : (Cond.instanceMethod (⟨"PlaneNet$Points", "<init>", "(I)V"⟩ : MethodName)) ∈ TT := mem_TT (List.mem_of_getElem? (i := 97) (by decide +kernel)) (by decide +kernel)
theorem wd_98 : (Cond.code (⟨"PlaneNet$Points", "<init>", "(I)V"⟩ : MethodName) prog_4_method_1_code 2 (Option.none : Option ClassFile.FieldType)) ∈ TT := mem_TT (List.mem_of_getElem? (i := 98) (by decide +kernel)) (by decide +kernel)
theorem wd_99 : (Cond.methodLink "PlaneNet$Points" 3 (⟨"java/lang/Object", "<init>", "()V"⟩ : MethodName)) ∈ TT := mem_TT (List.mem_of_getElem? (i := 99) (by decide +kernel)) (by decide +kernel)
theorem wd_100 : (Cond.classLink "PlaneNet$Points" 18 "PlaneNet$Row") ∈ TT := mem_TT (List.mem_of_getElem? (i := 100) (by decide +kernel)) (by decide +kernel)
theorem wd_101 : (Cond.instantiable "PlaneNet$Row" 2) ∈ TT := mem_TT (List.mem_of_getElem? (i := 101) (by decide +kernel)) (by decide +kernel)
theorem wd_102 : (Cond.methodLink "PlaneNet$Points" 20 (⟨"PlaneNet$Row", "<init>", "(I)V"⟩ : MethodName)) ∈ TT := mem_TT (List.mem_of_getElem? (i := 102) (by decide +kernel)) (by decide +kernel)
theorem wd_103 : (Cond.instanceMethod (⟨"PlaneNet$Row", "<init>", "(I)V"⟩ : MethodName)) ∈ TT := mem_TT (List.mem_of_getElem? (i := 103) (by decide +kernel)) (by decide +kernel)
theorem wd_104 : (Cond.code (⟨"PlaneNet$Row", "<init>", "(I)V"⟩ : MethodName) prog_6_method_1_code 2 (Option.none : Option ClassFile.FieldType)) ∈ TT := mem_TT (List.mem_of_getElem? (i := 104) (by decide +kernel)) (by decide +kernel)
theorem wd_105 : (Cond.methodLink "PlaneNet$Row" 1 (⟨"java/lang/Object", "<init>", "()V"⟩ : MethodName)) ∈ TT := mem_TT (List.mem_of_getElem? (i := 105) (by decide +kernel)) (by decide +kernel)
theorem wd_106 : (Cond.classLink "PlaneNet$Row" 9 "[I") ∈ TT := mem_TT (List.mem_of_getElem? (i := 106) (by decide +kernel)) (by decide +kernel)
theorem wd_108 : (Cond.fieldLink "PlaneNet$Row" 11 "PlaneNet$Row" "pages" "[[I") ∈ TT := mem_TT (List.mem_of_getElem? (i := 108) (by decide +kernel)) (by decide +kernel)
theorem wd_109 : (Cond.fieldLink "PlaneNet$Row" 15 "PlaneNet$Row" "made" "I") ∈ TT := mem_TT (List.mem_of_getElem? (i := 109) (by decide +kernel)) (by decide +kernel)
theorem wd_115 : (Cond.classLink "PlaneNet$Points" 30 "PlaneNet$Wide") ∈ TT := mem_TT (List.mem_of_getElem? (i := 115) (by decide +kernel)) (by decide +kernel)
theorem wd_116 : (Cond.instantiable "PlaneNet$Wide" 2) ∈ TT := mem_TT (List.mem_of_getElem? (i := 116) (by decide +kernel)) (by decide +kernel)
theorem wd_117 : (Cond.methodLink "PlaneNet$Points" 32 (⟨"PlaneNet$Wide", "<init>", "()V"⟩ : MethodName)) ∈ TT := mem_TT (List.mem_of_getElem? (i := 117) (by decide +kernel)) (by decide +kernel)
theorem wd_118 : (Cond.instanceMethod (⟨"PlaneNet$Wide", "<init>", "()V"⟩ : MethodName)) ∈ TT := mem_TT (List.mem_of_getElem? (i := 118) (by decide +kernel)) (by decide +kernel)
theorem wd_119 : (Cond.code (⟨"PlaneNet$Wide", "<init>", "()V"⟩ : MethodName) prog_7_method_1_code 1 (Option.none : Option ClassFile.FieldType)) ∈ TT := mem_TT (List.mem_of_getElem? (i := 119) (by decide +kernel)) (by decide +kernel)
theorem wd_120 : (Cond.methodLink "PlaneNet$Wide" 1 (⟨"java/lang/Object", "<init>", "()V"⟩ : MethodName)) ∈ TT := mem_TT (List.mem_of_getElem? (i := 120) (by decide +kernel)) (by decide +kernel)
theorem wd_121 : (Cond.fieldLink "PlaneNet$Wide" 7 "PlaneNet$Wide" "high" "J") ∈ TT := mem_TT (List.mem_of_getElem? (i := 121) (by decide +kernel)) (by decide +kernel)
theorem wd_122 : (Cond.fieldLink "PlaneNet$Wide" 13 "PlaneNet$Wide" "low" "J") ∈ TT := mem_TT (List.mem_of_getElem? (i := 122) (by decide +kernel)) (by decide +kernel)
theorem wd_128 : (Cond.fieldLink "PlaneNet$Points" 9 "PlaneNet$Points" "room" "I") ∈ TT := mem_TT (List.mem_of_getElem? (i := 128) (by decide +kernel)) (by decide +kernel)
theorem wd_129 : (Cond.fieldLink "PlaneNet$Net" 15 "PlaneNet$Points" "room" "I") ∈ TT := mem_TT (List.mem_of_getElem? (i := 129) (by decide +kernel)) (by decide +kernel)
theorem wd_130 : (Cond.fieldLink "PlaneNet$Outline" 21 "PlaneNet$Points" "room" "I") ∈ TT := mem_TT (List.mem_of_getElem? (i := 130) (by decide +kernel)) (by decide +kernel)
theorem wd_131 : (Cond.fieldLink "PlaneNet$Roll" 19 "PlaneNet$Points" "room" "I") ∈ TT := mem_TT (List.mem_of_getElem? (i := 131) (by decide +kernel)) (by decide +kernel)
theorem wd_132 : (Cond.fieldLink "PlaneNet$Points" 15 "PlaneNet$Points" "size" "I") ∈ TT := mem_TT (List.mem_of_getElem? (i := 132) (by decide +kernel)) (by decide +kernel)
theorem wd_133 : (Cond.fieldLink "PlaneNet" 71 "PlaneNet$Points" "size" "I") ∈ TT := mem_TT (List.mem_of_getElem? (i := 133) (by decide +kernel)) (by decide +kernel)
theorem wd_134 : (Cond.fieldLink "PlaneNet$Roll" 76 "PlaneNet$Points" "size" "I") ∈ TT := mem_TT (List.mem_of_getElem? (i := 134) (by decide +kernel)) (by decide +kernel)
theorem wd_135 : (Cond.fieldLink "PlaneNet$Outline" 78 "PlaneNet$Points" "size" "I") ∈ TT := mem_TT (List.mem_of_getElem? (i := 135) (by decide +kernel)) (by decide +kernel)
theorem wd_136 : (Cond.fieldLink "PlaneNet$Points" 23 "PlaneNet$Points" "xs" "LPlaneNet$Row;") ∈ TT := mem_TT (List.mem_of_getElem? (i := 136) (by decide +kernel)) (by decide +kernel)
theorem wd_137 : (Cond.fieldLink "PlaneNet$Points" 27 "PlaneNet$Points" "ys" "LPlaneNet$Row;") ∈ TT := mem_TT (List.mem_of_getElem? (i := 137) (by decide +kernel)) (by decide +kernel)
theorem wd_138 : (Cond.fieldLink "PlaneNet$Points" 33 "PlaneNet$Points" "sum" "LPlaneNet$Wide;") ∈ TT := mem_TT (List.mem_of_getElem? (i := 138) (by decide +kernel)) (by decide +kernel)
theorem wd_150 : (Cond.classLink "PlaneNet" 27 "PlaneNet$Net") ∈ TT := mem_TT (List.mem_of_getElem? (i := 150) (by decide +kernel)) (by decide +kernel)
theorem wd_151 : (Cond.instantiable "PlaneNet$Net" 13) ∈ TT := mem_TT (List.mem_of_getElem? (i := 151) (by decide +kernel)) (by decide +kernel)
theorem wd_152 : (Cond.methodLink "PlaneNet" 29 (⟨"PlaneNet$Net", "<init>", "(LPlaneNet$Points;)V"⟩ : MethodName)) ∈ TT := mem_TT (List.mem_of_getElem? (i := 152) (by decide +kernel)) (by decide +kernel)
theorem wd_153 : (Cond.instanceMethod (⟨"PlaneNet$Net", "<init>", "(LPlaneNet$Points;)V"⟩ : MethodName)) ∈ TT := mem_TT (List.mem_of_getElem? (i := 153) (by decide +kernel)) (by decide +kernel)
theorem wd_154 : (Cond.code (⟨"PlaneNet$Net", "<init>", "(LPlaneNet$Points;)V"⟩ : MethodName) prog_2_method_1_code 2 (Option.none : Option ClassFile.FieldType)) ∈ TT := mem_TT (List.mem_of_getElem? (i := 154) (by decide +kernel)) (by decide +kernel)
theorem wd_155 : (Cond.methodLink "PlaneNet$Net" 3 (⟨"java/lang/Object", "<init>", "()V"⟩ : MethodName)) ∈ TT := mem_TT (List.mem_of_getElem? (i := 155) (by decide +kernel)) (by decide +kernel)
theorem wd_156 : (Cond.classLink "PlaneNet$Net" 24 "PlaneNet$Row") ∈ TT := mem_TT (List.mem_of_getElem? (i := 156) (by decide +kernel)) (by decide +kernel)
theorem wd_157 : (Cond.methodLink "PlaneNet$Net" 26 (⟨"PlaneNet$Row", "<init>", "(I)V"⟩ : MethodName)) ∈ TT := mem_TT (List.mem_of_getElem? (i := 157) (by decide +kernel)) (by decide +kernel)
theorem wd_158 : (Cond.fieldLink "PlaneNet$Net" 9 "PlaneNet$Net" "points" "LPlaneNet$Points;") ∈ TT := mem_TT (List.mem_of_getElem? (i := 158) (by decide +kernel)) (by decide +kernel)
theorem wd_159 : (Cond.fieldLink "PlaneNet$Net" 21 "PlaneNet$Net" "ghost" "I") ∈ TT := mem_TT (List.mem_of_getElem? (i := 159) (by decide +kernel)) (by decide +kernel)
theorem wd_160 : (Cond.fieldLink "PlaneNet$Net" 29 "PlaneNet$Net" "starts" "LPlaneNet$Row;") ∈ TT := mem_TT (List.mem_of_getElem? (i := 160) (by decide +kernel)) (by decide +kernel)
theorem wd_161 : (Cond.fieldLink "PlaneNet$Net" 33 "PlaneNet$Net" "twins" "LPlaneNet$Row;") ∈ TT := mem_TT (List.mem_of_getElem? (i := 161) (by decide +kernel)) (by decide +kernel)
theorem wd_162 : (Cond.fieldLink "PlaneNet$Net" 36 "PlaneNet$Net" "leaving" "LPlaneNet$Row;") ∈ TT := mem_TT (List.mem_of_getElem? (i := 162) (by decide +kernel)) (by decide +kernel)
theorem wd_163 : (Cond.fieldLink "PlaneNet$Net" 39 "PlaneNet$Net" "marks" "LPlaneNet$Row;") ∈ TT := mem_TT (List.mem_of_getElem? (i := 163) (by decide +kernel)) (by decide +kernel)
theorem wd_164 : (Cond.fieldLink "PlaneNet$Net" 42 "PlaneNet$Net" "pit" "LPlaneNet$Row;") ∈ TT := mem_TT (List.mem_of_getElem? (i := 164) (by decide +kernel)) (by decide +kernel)
theorem wd_165 : (Cond.fieldLink "PlaneNet$Net" 45 "PlaneNet$Net" "rim" "LPlaneNet$Row;") ∈ TT := mem_TT (List.mem_of_getElem? (i := 165) (by decide +kernel)) (by decide +kernel)
theorem wd_166 : (Cond.fieldLink "PlaneNet$Net" 48 "PlaneNet$Net" "mark" "I") ∈ TT := mem_TT (List.mem_of_getElem? (i := 166) (by decide +kernel)) (by decide +kernel)
theorem wd_167 : (Cond.fieldLink "PlaneNet$Net" 51 "PlaneNet$Net" "all" "I") ∈ TT := mem_TT (List.mem_of_getElem? (i := 167) (by decide +kernel)) (by decide +kernel)
theorem wd_168 : (Cond.fieldLink "PlaneNet$Net" 54 "PlaneNet$Net" "outer" "I") ∈ TT := mem_TT (List.mem_of_getElem? (i := 168) (by decide +kernel)) (by decide +kernel)
theorem wd_169 : (Cond.fieldLink "PlaneNet$Net" 57 "PlaneNet$Net" "pitSize" "I") ∈ TT := mem_TT (List.mem_of_getElem? (i := 169) (by decide +kernel)) (by decide +kernel)
theorem wd_170 : (Cond.fieldLink "PlaneNet$Net" 60 "PlaneNet$Net" "rimSize" "I") ∈ TT := mem_TT (List.mem_of_getElem? (i := 170) (by decide +kernel)) (by decide +kernel)
theorem wd_198 : (Cond.classLink "PlaneNet" 36 "PlaneNet$Roll") ∈ TT := mem_TT (List.mem_of_getElem? (i := 198) (by decide +kernel)) (by decide +kernel)
theorem wd_199 : (Cond.instantiable "PlaneNet$Roll" 6) ∈ TT := mem_TT (List.mem_of_getElem? (i := 199) (by decide +kernel)) (by decide +kernel)
theorem wd_200 : (Cond.methodLink "PlaneNet" 38 (⟨"PlaneNet$Roll", "<init>", "(LPlaneNet$Points;LPlaneNet$Net;)V"⟩ : MethodName)) ∈ TT := mem_TT (List.mem_of_getElem? (i := 200) (by decide +kernel)) (by decide +kernel)
theorem wd_201 : (Cond.instanceMethod (⟨"PlaneNet$Roll", "<init>", "(LPlaneNet$Points;LPlaneNet$Net;)V"⟩ : MethodName)) ∈ TT := mem_TT (List.mem_of_getElem? (i := 201) (by decide +kernel)) (by decide +kernel)
theorem wd_202 : (Cond.code (⟨"PlaneNet$Roll", "<init>", "(LPlaneNet$Points;LPlaneNet$Net;)V"⟩ : MethodName) prog_5_method_1_code 3 (Option.none : Option ClassFile.FieldType)) ∈ TT := mem_TT (List.mem_of_getElem? (i := 202) (by decide +kernel)) (by decide +kernel)
theorem wd_203 : (Cond.methodLink "PlaneNet$Roll" 1 (⟨"java/lang/Object", "<init>", "()V"⟩ : MethodName)) ∈ TT := mem_TT (List.mem_of_getElem? (i := 203) (by decide +kernel)) (by decide +kernel)
theorem wd_204 : (Cond.classLink "PlaneNet$Roll" 17 "PlaneNet$Row") ∈ TT := mem_TT (List.mem_of_getElem? (i := 204) (by decide +kernel)) (by decide +kernel)
theorem wd_205 : (Cond.methodLink "PlaneNet$Roll" 25 (⟨"PlaneNet$Row", "<init>", "(I)V"⟩ : MethodName)) ∈ TT := mem_TT (List.mem_of_getElem? (i := 205) (by decide +kernel)) (by decide +kernel)
theorem wd_206 : (Cond.fieldLink "PlaneNet$Roll" 7 "PlaneNet$Roll" "points" "LPlaneNet$Points;") ∈ TT := mem_TT (List.mem_of_getElem? (i := 206) (by decide +kernel)) (by decide +kernel)
theorem wd_207 : (Cond.fieldLink "PlaneNet$Roll" 13 "PlaneNet$Roll" "net" "LPlaneNet$Net;") ∈ TT := mem_TT (List.mem_of_getElem? (i := 207) (by decide +kernel)) (by decide +kernel)
theorem wd_208 : (Cond.fieldLink "PlaneNet$Roll" 28 "PlaneNet$Roll" "edges" "LPlaneNet$Row;") ∈ TT := mem_TT (List.mem_of_getElem? (i := 208) (by decide +kernel)) (by decide +kernel)
theorem wd_209 : (Cond.fieldLink "PlaneNet$Roll" 32 "PlaneNet$Roll" "spare" "LPlaneNet$Row;") ∈ TT := mem_TT (List.mem_of_getElem? (i := 209) (by decide +kernel)) (by decide +kernel)
theorem wd_210 : (Cond.fieldLink "PlaneNet$Roll" 35 "PlaneNet$Roll" "ends" "LPlaneNet$Row;") ∈ TT := mem_TT (List.mem_of_getElem? (i := 210) (by decide +kernel)) (by decide +kernel)
theorem wd_211 : (Cond.fieldLink "PlaneNet$Roll" 38 "PlaneNet$Roll" "fresh" "Z") ∈ TT := mem_TT (List.mem_of_getElem? (i := 211) (by decide +kernel)) (by decide +kernel)
theorem wd_225 : (Cond.classLink "PlaneNet" 45 "PlaneNet$Outline") ∈ TT := mem_TT (List.mem_of_getElem? (i := 225) (by decide +kernel)) (by decide +kernel)
theorem wd_226 : (Cond.instantiable "PlaneNet$Outline" 5) ∈ TT := mem_TT (List.mem_of_getElem? (i := 226) (by decide +kernel)) (by decide +kernel)
theorem wd_227 : (Cond.methodLink "PlaneNet" 47 (⟨"PlaneNet$Outline", "<init>", "(LPlaneNet$Points;LPlaneNet$Net;)V"⟩ : MethodName)) ∈ TT := mem_TT (List.mem_of_getElem? (i := 227) (by decide +kernel)) (by decide +kernel)
theorem wd_228 : (Cond.instanceMethod (⟨"PlaneNet$Outline", "<init>", "(LPlaneNet$Points;LPlaneNet$Net;)V"⟩ : MethodName)) ∈ TT := mem_TT (List.mem_of_getElem? (i := 228) (by decide +kernel)) (by decide +kernel)
theorem wd_229 : (Cond.code (⟨"PlaneNet$Outline", "<init>", "(LPlaneNet$Points;LPlaneNet$Net;)V"⟩ : MethodName) prog_3_method_1_code 3 (Option.none : Option ClassFile.FieldType)) ∈ TT := mem_TT (List.mem_of_getElem? (i := 229) (by decide +kernel)) (by decide +kernel)
theorem wd_230 : (Cond.methodLink "PlaneNet$Outline" 3 (⟨"java/lang/Object", "<init>", "()V"⟩ : MethodName)) ∈ TT := mem_TT (List.mem_of_getElem? (i := 230) (by decide +kernel)) (by decide +kernel)
theorem wd_231 : (Cond.classLink "PlaneNet$Outline" 19 "PlaneNet$Row") ∈ TT := mem_TT (List.mem_of_getElem? (i := 231) (by decide +kernel)) (by decide +kernel)
theorem wd_232 : (Cond.methodLink "PlaneNet$Outline" 27 (⟨"PlaneNet$Row", "<init>", "(I)V"⟩ : MethodName)) ∈ TT := mem_TT (List.mem_of_getElem? (i := 232) (by decide +kernel)) (by decide +kernel)
theorem wd_233 : (Cond.fieldLink "PlaneNet$Outline" 9 "PlaneNet$Outline" "points" "LPlaneNet$Points;") ∈ TT := mem_TT (List.mem_of_getElem? (i := 233) (by decide +kernel)) (by decide +kernel)
theorem wd_234 : (Cond.fieldLink "PlaneNet$Outline" 15 "PlaneNet$Outline" "net" "LPlaneNet$Net;") ∈ TT := mem_TT (List.mem_of_getElem? (i := 234) (by decide +kernel)) (by decide +kernel)
theorem wd_235 : (Cond.fieldLink "PlaneNet$Outline" 30 "PlaneNet$Outline" "corners" "LPlaneNet$Row;") ∈ TT := mem_TT (List.mem_of_getElem? (i := 235) (by decide +kernel)) (by decide +kernel)
theorem wd_236 : (Cond.fieldLink "PlaneNet$Outline" 34 "PlaneNet$Outline" "size" "I") ∈ TT := mem_TT (List.mem_of_getElem? (i := 236) (by decide +kernel)) (by decide +kernel)
theorem wd_237 : (Cond.fieldLink "PlaneNet$Outline" 37 "PlaneNet$Outline" "fresh" "Z") ∈ TT := mem_TT (List.mem_of_getElem? (i := 237) (by decide +kernel)) (by decide +kernel)
theorem wd_249 : (Cond.fieldLink "PlaneNet" 23 "PlaneNet" "points" "LPlaneNet$Points;") ∈ TT := mem_TT (List.mem_of_getElem? (i := 249) (by decide +kernel)) (by decide +kernel)
theorem wd_250 : (Cond.fieldLink "PlaneNet" 32 "PlaneNet" "net" "LPlaneNet$Net;") ∈ TT := mem_TT (List.mem_of_getElem? (i := 250) (by decide +kernel)) (by decide +kernel)
theorem wd_251 : (Cond.fieldLink "PlaneNet" 41 "PlaneNet" "roll" "LPlaneNet$Roll;") ∈ TT := mem_TT (List.mem_of_getElem? (i := 251) (by decide +kernel)) (by decide +kernel)
theorem wd_252 : (Cond.fieldLink "PlaneNet" 48 "PlaneNet" "outline" "LPlaneNet$Outline;") ∈ TT := mem_TT (List.mem_of_getElem? (i := 252) (by decide +kernel)) (by decide +kernel)
theorem wd_253 : (Cond.fieldLink "PlaneNet" 52 "PlaneNet" "found" "[I") ∈ TT := mem_TT (List.mem_of_getElem? (i := 253) (by decide +kernel)) (by decide +kernel)
theorem wd_254 : (Cond.fieldLink "PlaneNet" 56 "PlaneNet" "closestGap" "J") ∈ TT := mem_TT (List.mem_of_getElem? (i := 254) (by decide +kernel)) (by decide +kernel)
theorem wd_255 : (Cond.fieldLink "PlaneNet" 60 "PlaneNet" "closestLower" "I") ∈ TT := mem_TT (List.mem_of_getElem? (i := 255) (by decide +kernel)) (by decide +kernel)
theorem wd_256 : (Cond.fieldLink "PlaneNet" 64 "PlaneNet" "closestOther" "I") ∈ TT := mem_TT (List.mem_of_getElem? (i := 256) (by decide +kernel)) (by decide +kernel)
theorem wd_274 : (Cond.arrayClass .int) ∈ TT := mem_TT (List.mem_of_getElem? (i := 274) (by decide +kernel)) (by decide +kernel)
theorem wd_278 : (Cond.code (⟨"PlaneNet", "clear", "()I"⟩ : MethodName) prog_1_method_3_code 2 (Option.some .int)) ∈ TT := mem_TT (List.mem_of_getElem? (i := 278) (by decide +kernel)) (by decide +kernel)
theorem wd_279 : (Cond.methodLink "PlaneNet" 114 (⟨"PlaneNet$Net", "removeAll", "()V"⟩ : MethodName)) ∈ TT := mem_TT (List.mem_of_getElem? (i := 279) (by decide +kernel)) (by decide +kernel)
theorem wd_280 : (Cond.instanceMethod (⟨"PlaneNet$Net", "removeAll", "()V"⟩ : MethodName)) ∈ TT := mem_TT (List.mem_of_getElem? (i := 280) (by decide +kernel)) (by decide +kernel)
theorem wd_281 : (Cond.selects "PlaneNet$Net" (⟨"PlaneNet$Net", "removeAll", "()V"⟩ : MethodName) (⟨"PlaneNet$Net", "removeAll", "()V"⟩ : MethodName)) ∈ TT := mem_TT (List.mem_of_getElem? (i := 281) (by decide +kernel)) (by decide +kernel)
theorem wd_282 : (Cond.code (⟨"PlaneNet$Net", "removeAll", "()V"⟩ : MethodName) prog_2_method_8_code 1 (Option.none : Option ClassFile.FieldType)) ∈ TT := mem_TT (List.mem_of_getElem? (i := 282) (by decide +kernel)) (by decide +kernel)
theorem wd_283 : (Cond.methodLink "PlaneNet" 111 (⟨"PlaneNet", "forgetAnswers", "()V"⟩ : MethodName)) ∈ TT := mem_TT (List.mem_of_getElem? (i := 283) (by decide +kernel)) (by decide +kernel)
theorem wd_285 : (Cond.instanceMethod (⟨"PlaneNet", "forgetAnswers", "()V"⟩ : MethodName)) ∈ TT := mem_TT (List.mem_of_getElem? (i := 285) (by decide +kernel)) (by decide +kernel)
theorem wd_286 : (Cond.code (⟨"PlaneNet", "forgetAnswers", "()V"⟩ : MethodName) prog_1_method_20_code 1 (Option.none : Option ClassFile.FieldType)) ∈ TT := mem_TT (List.mem_of_getElem? (i := 286) (by decide +kernel)) (by decide +kernel)
theorem wd_287 : (Cond.methodLink "PlaneNet" 158 (⟨"PlaneNet", "forgetFound", "()V"⟩ : MethodName)) ∈ TT := mem_TT (List.mem_of_getElem? (i := 287) (by decide +kernel)) (by decide +kernel)
theorem wd_289 : (Cond.instanceMethod (⟨"PlaneNet", "forgetFound", "()V"⟩ : MethodName)) ∈ TT := mem_TT (List.mem_of_getElem? (i := 289) (by decide +kernel)) (by decide +kernel)
theorem wd_290 : (Cond.code (⟨"PlaneNet", "forgetFound", "()V"⟩ : MethodName) prog_1_method_21_code 1 (Option.none : Option ClassFile.FieldType)) ∈ TT := mem_TT (List.mem_of_getElem? (i := 290) (by decide +kernel)) (by decide +kernel)
theorem wd_291 : (Cond.methodLink "PlaneNet" 210 (⟨"java/util/Arrays", "fill", "([II)V"⟩ : MethodName)) ∈ TT := mem_TT (List.mem_of_getElem? (i := 291) (by decide +kernel)) (by decide +kernel)
theorem wd_292 : (Cond.static (⟨"java/util/Arrays", "fill", "([II)V"⟩ : MethodName)) ∈ TT := mem_TT (List.mem_of_getElem? (i := 292) (by decide +kernel)) (by decide +kernel)
theorem wd_293 : (Cond.code (⟨"java/util/Arrays", "fill", "([II)V"⟩ : MethodName) prog_18_method_103_code 4 (Option.none : Option ClassFile.FieldType)) ∈ TT := mem_TT (List.mem_of_getElem? (i := 293) (by decide +kernel)) (by decide +kernel)
theorem wd_294 : (Cond.methodLink "PlaneNet" 206 (⟨"PlaneNet$Roll", "forget", "()V"⟩ : MethodName)) ∈ TT := mem_TT (List.mem_of_getElem? (i := 294) (by decide +kernel)) (by decide +kernel)
theorem wd_295 : (Cond.instanceMethod (⟨"PlaneNet$Roll", "forget", "()V"⟩ : MethodName)) ∈ TT := mem_TT (List.mem_of_getElem? (i := 295) (by decide +kernel)) (by decide +kernel)
theorem wd_296 : (Cond.selects "PlaneNet$Roll" (⟨"PlaneNet$Roll", "forget", "()V"⟩ : MethodName) (⟨"PlaneNet$Roll", "forget", "()V"⟩ : MethodName)) ∈ TT := mem_TT (List.mem_of_getElem? (i := 296) (by decide +kernel)) (by decide +kernel)
theorem wd_297 : (Cond.code (⟨"PlaneNet$Roll", "forget", "()V"⟩ : MethodName) prog_5_method_3_code 1 (Option.none : Option ClassFile.FieldType)) ∈ TT := mem_TT (List.mem_of_getElem? (i := 297) (by decide +kernel)) (by decide +kernel)
theorem wd_298 : (Cond.methodLink "PlaneNet" 209 (⟨"PlaneNet$Outline", "forget", "()V"⟩ : MethodName)) ∈ TT := mem_TT (List.mem_of_getElem? (i := 298) (by decide +kernel)) (by decide +kernel)
theorem wd_299 : (Cond.instanceMethod (⟨"PlaneNet$Outline", "forget", "()V"⟩ : MethodName)) ∈ TT := mem_TT (List.mem_of_getElem? (i := 299) (by decide +kernel)) (by decide +kernel)
theorem wd_300 : (Cond.selects "PlaneNet$Outline" (⟨"PlaneNet$Outline", "forget", "()V"⟩ : MethodName) (⟨"PlaneNet$Outline", "forget", "()V"⟩ : MethodName)) ∈ TT := mem_TT (List.mem_of_getElem? (i := 300) (by decide +kernel)) (by decide +kernel)
theorem wd_301 : (Cond.code (⟨"PlaneNet$Outline", "forget", "()V"⟩ : MethodName) prog_3_method_3_code 1 (Option.none : Option ClassFile.FieldType)) ∈ TT := mem_TT (List.mem_of_getElem? (i := 301) (by decide +kernel)) (by decide +kernel)
theorem wd_305 : (Cond.code (⟨"PlaneNet", "located", "(I)I"⟩ : MethodName) prog_1_method_10_code 2 (Option.some .int)) ∈ TT := mem_TT (List.mem_of_getElem? (i := 305) (by decide +kernel)) (by decide +kernel)
theorem wd_309 : (Cond.code (⟨"PlaneNet", "count", "(I)I"⟩ : MethodName) prog_1_method_14_code 2 (Option.some .int)) ∈ TT := mem_TT (List.mem_of_getElem? (i := 309) (by decide +kernel)) (by decide +kernel)
theorem wd_310 : (Cond.methodLink "PlaneNet" 117 (⟨"PlaneNet$Net", "solidCount", "()I"⟩ : MethodName)) ∈ TT := mem_TT (List.mem_of_getElem? (i := 310) (by decide +kernel)) (by decide +kernel)
theorem wd_311 : (Cond.instanceMethod (⟨"PlaneNet$Net", "solidCount", "()I"⟩ : MethodName)) ∈ TT := mem_TT (List.mem_of_getElem? (i := 311) (by decide +kernel)) (by decide +kernel)
theorem wd_312 : (Cond.selects "PlaneNet$Net" (⟨"PlaneNet$Net", "solidCount", "()I"⟩ : MethodName) (⟨"PlaneNet$Net", "solidCount", "()I"⟩ : MethodName)) ∈ TT := mem_TT (List.mem_of_getElem? (i := 312) (by decide +kernel)) (by decide +kernel)
theorem wd_313 : (Cond.code (⟨"PlaneNet$Net", "solidCount", "()I"⟩ : MethodName) prog_2_method_4_code 1 (Option.some .int)) ∈ TT := mem_TT (List.mem_of_getElem? (i := 313) (by decide +kernel)) (by decide +kernel)
theorem wd_314 : (Cond.methodLink "PlaneNet" 150 (⟨"PlaneNet$Outline", "many", "()I"⟩ : MethodName)) ∈ TT := mem_TT (List.mem_of_getElem? (i := 314) (by decide +kernel)) (by decide +kernel)
theorem wd_315 : (Cond.instanceMethod (⟨"PlaneNet$Outline", "many", "()I"⟩ : MethodName)) ∈ TT := mem_TT (List.mem_of_getElem? (i := 315) (by decide +kernel)) (by decide +kernel)
theorem wd_316 : (Cond.selects "PlaneNet$Outline" (⟨"PlaneNet$Outline", "many", "()I"⟩ : MethodName) (⟨"PlaneNet$Outline", "many", "()I"⟩ : MethodName)) ∈ TT := mem_TT (List.mem_of_getElem? (i := 316) (by decide +kernel)) (by decide +kernel)
theorem wd_317 : (Cond.code (⟨"PlaneNet$Outline", "many", "()I"⟩ : MethodName) prog_3_method_4_code 1 (Option.some .int)) ∈ TT := mem_TT (List.mem_of_getElem? (i := 317) (by decide +kernel)) (by decide +kernel)
theorem wd_318 : (Cond.methodLink "PlaneNet$Outline" 44 (⟨"PlaneNet$Outline", "draw", "()V"⟩ : MethodName)) ∈ TT := mem_TT (List.mem_of_getElem? (i := 318) (by decide +kernel)) (by decide +kernel)
theorem wd_320 : (Cond.instanceMethod (⟨"PlaneNet$Outline", "draw", "()V"⟩ : MethodName)) ∈ TT := mem_TT (List.mem_of_getElem? (i := 320) (by decide +kernel)) (by decide +kernel)
theorem wd_321 : (Cond.code (⟨"PlaneNet$Outline", "draw", "()V"⟩ : MethodName) prog_3_method_6_code 1 (Option.none : Option ClassFile.FieldType)) ∈ TT := mem_TT (List.mem_of_getElem? (i := 321) (by decide +kernel)) (by decide +kernel)
theorem wd_322 : (Cond.methodLink "PlaneNet$Outline" 51 (⟨"PlaneNet$Net", "isEmpty", "()Z"⟩ : MethodName)) ∈ TT := mem_TT (List.mem_of_getElem? (i := 322) (by decide +kernel)) (by decide +kernel)
theorem wd_323 : (Cond.instanceMethod (⟨"PlaneNet$Net", "isEmpty", "()Z"⟩ : MethodName)) ∈ TT := mem_TT (List.mem_of_getElem? (i := 323) (by decide +kernel)) (by decide +kernel)
theorem wd_324 : (Cond.selects "PlaneNet$Net" (⟨"PlaneNet$Net", "isEmpty", "()Z"⟩ : MethodName) (⟨"PlaneNet$Net", "isEmpty", "()Z"⟩ : MethodName)) ∈ TT := mem_TT (List.mem_of_getElem? (i := 324) (by decide +kernel)) (by decide +kernel)
theorem wd_325 : (Cond.code (⟨"PlaneNet$Net", "isEmpty", "()Z"⟩ : MethodName) prog_2_method_3_code 1 (Option.some .boolean)) ∈ TT := mem_TT (List.mem_of_getElem? (i := 325) (by decide +kernel)) (by decide +kernel)
theorem wd_326 : (Cond.methodLink "PlaneNet$Outline" 57 (⟨"PlaneNet$Outline", "drawLine", "()V"⟩ : MethodName)) ∈ TT := mem_TT (List.mem_of_getElem? (i := 326) (by decide +kernel)) (by decide +kernel)
theorem wd_328 : (Cond.instanceMethod (⟨"PlaneNet$Outline", "drawLine", "()V"⟩ : MethodName)) ∈ TT := mem_TT (List.mem_of_getElem? (i := 328) (by decide +kernel)) (by decide +kernel)
theorem wd_329 : (Cond.code (⟨"PlaneNet$Outline", "drawLine", "()V"⟩ : MethodName) prog_3_method_7_code 3 (Option.none : Option ClassFile.FieldType)) ∈ TT := mem_TT (List.mem_of_getElem? (i := 329) (by decide +kernel)) (by decide +kernel)
theorem wd_330 : (Cond.constant "PlaneNet$Outline" 63 (-1000000001)) ∈ TT := mem_TT (List.mem_of_getElem? (i := 330) (by decide +kernel)) (by decide +kernel)
theorem wd_331 : (Cond.methodLink "PlaneNet$Outline" 64 (⟨"PlaneNet$Points", "leastAbove", "(II)I"⟩ : MethodName)) ∈ TT := mem_TT (List.mem_of_getElem? (i := 331) (by decide +kernel)) (by decide +kernel)
theorem wd_332 : (Cond.instanceMethod (⟨"PlaneNet$Points", "leastAbove", "(II)I"⟩ : MethodName)) ∈ TT := mem_TT (List.mem_of_getElem? (i := 332) (by decide +kernel)) (by decide +kernel)
theorem wd_333 : (Cond.selects "PlaneNet$Points" (⟨"PlaneNet$Points", "leastAbove", "(II)I"⟩ : MethodName) (⟨"PlaneNet$Points", "leastAbove", "(II)I"⟩ : MethodName)) ∈ TT := mem_TT (List.mem_of_getElem? (i := 333) (by decide +kernel)) (by decide +kernel)
theorem wd_334 : (Cond.code (⟨"PlaneNet$Points", "leastAbove", "(II)I"⟩ : MethodName) prog_4_method_13_code 5 (Option.some .int)) ∈ TT := mem_TT (List.mem_of_getElem? (i := 334) (by decide +kernel)) (by decide +kernel)
theorem wd_335 : (Cond.methodLink "PlaneNet$Points" 52 (⟨"PlaneNet$Points", "isAbove", "(III)Z"⟩ : MethodName)) ∈ TT := mem_TT (List.mem_of_getElem? (i := 335) (by decide +kernel)) (by decide +kernel)
theorem wd_337 : (Cond.instanceMethod (⟨"PlaneNet$Points", "isAbove", "(III)Z"⟩ : MethodName)) ∈ TT := mem_TT (List.mem_of_getElem? (i := 337) (by decide +kernel)) (by decide +kernel)
theorem wd_338 : (Cond.code (⟨"PlaneNet$Points", "isAbove", "(III)Z"⟩ : MethodName) prog_4_method_10_code 4 (Option.some .boolean)) ∈ TT := mem_TT (List.mem_of_getElem? (i := 338) (by decide +kernel)) (by decide +kernel)
theorem wd_339 : (Cond.methodLink "PlaneNet$Points" 44 (⟨"PlaneNet$Row", "get", "(I)I"⟩ : MethodName)) ∈ TT := mem_TT (List.mem_of_getElem? (i := 339) (by decide +kernel)) (by decide +kernel)
theorem wd_340 : (Cond.instanceMethod (⟨"PlaneNet$Row", "get", "(I)I"⟩ : MethodName)) ∈ TT := mem_TT (List.mem_of_getElem? (i := 340) (by decide +kernel)) (by decide +kernel)
theorem wd_341 : (Cond.selects "PlaneNet$Row" (⟨"PlaneNet$Row", "get", "(I)I"⟩ : MethodName) (⟨"PlaneNet$Row", "get", "(I)I"⟩ : MethodName)) ∈ TT := mem_TT (List.mem_of_getElem? (i := 341) (by decide +kernel)) (by decide +kernel)
theorem wd_342 : (Cond.code (⟨"PlaneNet$Row", "get", "(I)I"⟩ : MethodName) prog_6_method_3_code 4 (Option.some .int)) ∈ TT := mem_TT (List.mem_of_getElem? (i := 342) (by decide +kernel)) (by decide +kernel)
theorem wd_343 : (Cond.methodLink "PlaneNet$Points" 56 (⟨"PlaneNet$Points", "isLess", "(II)Z"⟩ : MethodName)) ∈ TT := mem_TT (List.mem_of_getElem? (i := 343) (by decide +kernel)) (by decide +kernel)
theorem wd_344 : (Cond.instanceMethod (⟨"PlaneNet$Points", "isLess", "(II)Z"⟩ : MethodName)) ∈ TT := mem_TT (List.mem_of_getElem? (i := 344) (by decide +kernel)) (by decide +kernel)
theorem wd_345 : (Cond.selects "PlaneNet$Points" (⟨"PlaneNet$Points", "isLess", "(II)Z"⟩ : MethodName) (⟨"PlaneNet$Points", "isLess", "(II)Z"⟩ : MethodName)) ∈ TT := mem_TT (List.mem_of_getElem? (i := 345) (by decide +kernel)) (by decide +kernel)
theorem wd_346 : (Cond.code (⟨"PlaneNet$Points", "isLess", "(II)Z"⟩ : MethodName) prog_4_method_8_code 3 (Option.some .boolean)) ∈ TT := mem_TT (List.mem_of_getElem? (i := 346) (by decide +kernel)) (by decide +kernel)
theorem wd_347 : (Cond.constant "PlaneNet$Outline" 68 1000000001) ∈ TT := mem_TT (List.mem_of_getElem? (i := 347) (by decide +kernel)) (by decide +kernel)
theorem wd_348 : (Cond.methodLink "PlaneNet$Outline" 69 (⟨"PlaneNet$Points", "greatestBelow", "(II)I"⟩ : MethodName)) ∈ TT := mem_TT (List.mem_of_getElem? (i := 348) (by decide +kernel)) (by decide +kernel)
theorem wd_349 : (Cond.instanceMethod (⟨"PlaneNet$Points", "greatestBelow", "(II)I"⟩ : MethodName)) ∈ TT := mem_TT (List.mem_of_getElem? (i := 349) (by decide +kernel)) (by decide +kernel)
theorem wd_350 : (Cond.selects "PlaneNet$Points" (⟨"PlaneNet$Points", "greatestBelow", "(II)I"⟩ : MethodName) (⟨"PlaneNet$Points", "greatestBelow", "(II)I"⟩ : MethodName)) ∈ TT := mem_TT (List.mem_of_getElem? (i := 350) (by decide +kernel)) (by decide +kernel)
theorem wd_351 : (Cond.code (⟨"PlaneNet$Points", "greatestBelow", "(II)I"⟩ : MethodName) prog_4_method_14_code 5 (Option.some .int)) ∈ TT := mem_TT (List.mem_of_getElem? (i := 351) (by decide +kernel)) (by decide +kernel)
theorem wd_352 : (Cond.methodLink "PlaneNet$Points" 60 (⟨"PlaneNet$Points", "isBelow", "(III)Z"⟩ : MethodName)) ∈ TT := mem_TT (List.mem_of_getElem? (i := 352) (by decide +kernel)) (by decide +kernel)
theorem wd_354 : (Cond.instanceMethod (⟨"PlaneNet$Points", "isBelow", "(III)Z"⟩ : MethodName)) ∈ TT := mem_TT (List.mem_of_getElem? (i := 354) (by decide +kernel)) (by decide +kernel)
theorem wd_355 : (Cond.code (⟨"PlaneNet$Points", "isBelow", "(III)Z"⟩ : MethodName) prog_4_method_9_code 4 (Option.some .boolean)) ∈ TT := mem_TT (List.mem_of_getElem? (i := 355) (by decide +kernel)) (by decide +kernel)
theorem wd_356 : (Cond.methodLink "PlaneNet$Outline" 72 (⟨"PlaneNet$Outline", "put", "(I)V"⟩ : MethodName)) ∈ TT := mem_TT (List.mem_of_getElem? (i := 356) (by decide +kernel)) (by decide +kernel)
theorem wd_358 : (Cond.instanceMethod (⟨"PlaneNet$Outline", "put", "(I)V"⟩ : MethodName)) ∈ TT := mem_TT (List.mem_of_getElem? (i := 358) (by decide +kernel)) (by decide +kernel)
theorem wd_359 : (Cond.code (⟨"PlaneNet$Outline", "put", "(I)V"⟩ : MethodName) prog_3_method_10_code 2 (Option.none : Option ClassFile.FieldType)) ∈ TT := mem_TT (List.mem_of_getElem? (i := 359) (by decide +kernel)) (by decide +kernel)
theorem wd_360 : (Cond.methodLink "PlaneNet$Outline" 99 (⟨"PlaneNet$Row", "put", "(II)V"⟩ : MethodName)) ∈ TT := mem_TT (List.mem_of_getElem? (i := 360) (by decide +kernel)) (by decide +kernel)
theorem wd_361 : (Cond.instanceMethod (⟨"PlaneNet$Row", "put", "(II)V"⟩ : MethodName)) ∈ TT := mem_TT (List.mem_of_getElem? (i := 361) (by decide +kernel)) (by decide +kernel)
theorem wd_362 : (Cond.selects "PlaneNet$Row" (⟨"PlaneNet$Row", "put", "(II)V"⟩ : MethodName) (⟨"PlaneNet$Row", "put", "(II)V"⟩ : MethodName)) ∈ TT := mem_TT (List.mem_of_getElem? (i := 362) (by decide +kernel)) (by decide +kernel)
theorem wd_363 : (Cond.code (⟨"PlaneNet$Row", "put", "(II)V"⟩ : MethodName) prog_6_method_4_code 5 (Option.none : Option ClassFile.FieldType)) ∈ TT := mem_TT (List.mem_of_getElem? (i := 363) (by decide +kernel)) (by decide +kernel)
theorem wd_364 : (Cond.methodLink "PlaneNet$Outline" 60 (⟨"PlaneNet$Outline", "drawRound", "()V"⟩ : MethodName)) ∈ TT := mem_TT (List.mem_of_getElem? (i := 364) (by decide +kernel)) (by decide +kernel)
theorem wd_366 : (Cond.instanceMethod (⟨"PlaneNet$Outline", "drawRound", "()V"⟩ : MethodName)) ∈ TT := mem_TT (List.mem_of_getElem? (i := 366) (by decide +kernel)) (by decide +kernel)
theorem wd_367 : (Cond.code (⟨"PlaneNet$Outline", "drawRound", "()V"⟩ : MethodName) prog_3_method_8_code 7 (Option.none : Option ClassFile.FieldType)) ∈ TT := mem_TT (List.mem_of_getElem? (i := 367) (by decide +kernel)) (by decide +kernel)
theorem wd_368 : (Cond.methodLink "PlaneNet$Outline" 75 (⟨"PlaneNet$Net", "wayToGhost", "(I)I"⟩ : MethodName)) ∈ TT := mem_TT (List.mem_of_getElem? (i := 368) (by decide +kernel)) (by decide +kernel)
theorem wd_369 : (Cond.instanceMethod (⟨"PlaneNet$Net", "wayToGhost", "(I)I"⟩ : MethodName)) ∈ TT := mem_TT (List.mem_of_getElem? (i := 369) (by decide +kernel)) (by decide +kernel)
theorem wd_370 : (Cond.selects "PlaneNet$Net" (⟨"PlaneNet$Net", "wayToGhost", "(I)I"⟩ : MethodName) (⟨"PlaneNet$Net", "wayToGhost", "(I)I"⟩ : MethodName)) ∈ TT := mem_TT (List.mem_of_getElem? (i := 370) (by decide +kernel)) (by decide +kernel)
theorem wd_371 : (Cond.code (⟨"PlaneNet$Net", "wayToGhost", "(I)I"⟩ : MethodName) prog_2_method_28_code 4 (Option.some .int)) ∈ TT := mem_TT (List.mem_of_getElem? (i := 371) (by decide +kernel)) (by decide +kernel)
theorem wd_372 : (Cond.methodLink "PlaneNet$Net" 85 (⟨"PlaneNet$Net", "placeOf", "(I)I"⟩ : MethodName)) ∈ TT := mem_TT (List.mem_of_getElem? (i := 372) (by decide +kernel)) (by decide +kernel)
theorem wd_374 : (Cond.instanceMethod (⟨"PlaneNet$Net", "placeOf", "(I)I"⟩ : MethodName)) ∈ TT := mem_TT (List.mem_of_getElem? (i := 374) (by decide +kernel)) (by decide +kernel)
theorem wd_375 : (Cond.code (⟨"PlaneNet$Net", "placeOf", "(I)I"⟩ : MethodName) prog_2_method_12_code 2 (Option.some .int)) ∈ TT := mem_TT (List.mem_of_getElem? (i := 375) (by decide +kernel)) (by decide +kernel)
theorem wd_376 : (Cond.methodLink "PlaneNet$Net" 63 (⟨"PlaneNet$Row", "get", "(I)I"⟩ : MethodName)) ∈ TT := mem_TT (List.mem_of_getElem? (i := 376) (by decide +kernel)) (by decide +kernel)
theorem wd_377 : (Cond.methodLink "PlaneNet$Net" 118 (⟨"PlaneNet$Net", "endOf", "(I)I"⟩ : MethodName)) ∈ TT := mem_TT (List.mem_of_getElem? (i := 377) (by decide +kernel)) (by decide +kernel)
theorem wd_378 : (Cond.instanceMethod (⟨"PlaneNet$Net", "endOf", "(I)I"⟩ : MethodName)) ∈ TT := mem_TT (List.mem_of_getElem? (i := 378) (by decide +kernel)) (by decide +kernel)
theorem wd_379 : (Cond.selects "PlaneNet$Net" (⟨"PlaneNet$Net", "endOf", "(I)I"⟩ : MethodName) (⟨"PlaneNet$Net", "endOf", "(I)I"⟩ : MethodName)) ∈ TT := mem_TT (List.mem_of_getElem? (i := 379) (by decide +kernel)) (by decide +kernel)
theorem wd_380 : (Cond.code (⟨"PlaneNet$Net", "endOf", "(I)I"⟩ : MethodName) prog_2_method_7_code 2 (Option.some .int)) ∈ TT := mem_TT (List.mem_of_getElem? (i := 380) (by decide +kernel)) (by decide +kernel)
theorem wd_381 : (Cond.methodLink "PlaneNet$Net" 67 (⟨"PlaneNet$Net", "ahead", "(II)I"⟩ : MethodName)) ∈ TT := mem_TT (List.mem_of_getElem? (i := 381) (by decide +kernel)) (by decide +kernel)
theorem wd_382 : (Cond.static (⟨"PlaneNet$Net", "ahead", "(II)I"⟩ : MethodName)) ∈ TT := mem_TT (List.mem_of_getElem? (i := 382) (by decide +kernel)) (by decide +kernel)
theorem wd_383 : (Cond.code (⟨"PlaneNet$Net", "ahead", "(II)I"⟩ : MethodName) prog_2_method_2_code 3 (Option.some .int)) ∈ TT := mem_TT (List.mem_of_getElem? (i := 383) (by decide +kernel)) (by decide +kernel)
theorem wd_384 : (Cond.methodLink "PlaneNet$Net" 138 (⟨"PlaneNet$Net", "leftOf", "(I)I"⟩ : MethodName)) ∈ TT := mem_TT (List.mem_of_getElem? (i := 384) (by decide +kernel)) (by decide +kernel)
theorem wd_386 : (Cond.instanceMethod (⟨"PlaneNet$Net", "leftOf", "(I)I"⟩ : MethodName)) ∈ TT := mem_TT (List.mem_of_getElem? (i := 386) (by decide +kernel)) (by decide +kernel)
theorem wd_387 : (Cond.code (⟨"PlaneNet$Net", "leftOf", "(I)I"⟩ : MethodName) prog_2_method_24_code 2 (Option.some .int)) ∈ TT := mem_TT (List.mem_of_getElem? (i := 387) (by decide +kernel)) (by decide +kernel)
theorem wd_388 : (Cond.methodLink "PlaneNet$Outline" 79 (⟨"PlaneNet$Net", "nextWayToGhost", "(I)I"⟩ : MethodName)) ∈ TT := mem_TT (List.mem_of_getElem? (i := 388) (by decide +kernel)) (by decide +kernel)
theorem wd_389 : (Cond.instanceMethod (⟨"PlaneNet$Net", "nextWayToGhost", "(I)I"⟩ : MethodName)) ∈ TT := mem_TT (List.mem_of_getElem? (i := 389) (by decide +kernel)) (by decide +kernel)
theorem wd_390 : (Cond.selects "PlaneNet$Net" (⟨"PlaneNet$Net", "nextWayToGhost", "(I)I"⟩ : MethodName) (⟨"PlaneNet$Net", "nextWayToGhost", "(I)I"⟩ : MethodName)) ∈ TT := mem_TT (List.mem_of_getElem? (i := 390) (by decide +kernel)) (by decide +kernel)
theorem wd_391 : (Cond.code (⟨"PlaneNet$Net", "nextWayToGhost", "(I)I"⟩ : MethodName) prog_2_method_29_code 2 (Option.some .int)) ∈ TT := mem_TT (List.mem_of_getElem? (i := 391) (by decide +kernel)) (by decide +kernel)
theorem wd_392 : (Cond.methodLink "PlaneNet$Outline" 82 (⟨"PlaneNet$Net", "startOf", "(I)I"⟩ : MethodName)) ∈ TT := mem_TT (List.mem_of_getElem? (i := 392) (by decide +kernel)) (by decide +kernel)
theorem wd_393 : (Cond.instanceMethod (⟨"PlaneNet$Net", "startOf", "(I)I"⟩ : MethodName)) ∈ TT := mem_TT (List.mem_of_getElem? (i := 393) (by decide +kernel)) (by decide +kernel)
theorem wd_394 : (Cond.selects "PlaneNet$Net" (⟨"PlaneNet$Net", "startOf", "(I)I"⟩ : MethodName) (⟨"PlaneNet$Net", "startOf", "(I)I"⟩ : MethodName)) ∈ TT := mem_TT (List.mem_of_getElem? (i := 394) (by decide +kernel)) (by decide +kernel)
theorem wd_395 : (Cond.code (⟨"PlaneNet$Net", "startOf", "(I)I"⟩ : MethodName) prog_2_method_6_code 2 (Option.some .int)) ∈ TT := mem_TT (List.mem_of_getElem? (i := 395) (by decide +kernel)) (by decide +kernel)
theorem wd_396 : (Cond.methodLink "PlaneNet$Outline" 85 (⟨"PlaneNet$Outline", "isCorner", "(III)Z"⟩ : MethodName)) ∈ TT := mem_TT (List.mem_of_getElem? (i := 396) (by decide +kernel)) (by decide +kernel)
theorem wd_398 : (Cond.instanceMethod (⟨"PlaneNet$Outline", "isCorner", "(III)Z"⟩ : MethodName)) ∈ TT := mem_TT (List.mem_of_getElem? (i := 398) (by decide +kernel)) (by decide +kernel)
theorem wd_399 : (Cond.code (⟨"PlaneNet$Outline", "isCorner", "(III)Z"⟩ : MethodName) prog_3_method_9_code 4 (Option.some .boolean)) ∈ TT := mem_TT (List.mem_of_getElem? (i := 399) (by decide +kernel)) (by decide +kernel)
theorem wd_400 : (Cond.methodLink "PlaneNet$Outline" 89 (⟨"PlaneNet$Points", "x", "(I)I"⟩ : MethodName)) ∈ TT := mem_TT (List.mem_of_getElem? (i := 400) (by decide +kernel)) (by decide +kernel)
theorem wd_401 : (Cond.instanceMethod (⟨"PlaneNet$Points", "x", "(I)I"⟩ : MethodName)) ∈ TT := mem_TT (List.mem_of_getElem? (i := 401) (by decide +kernel)) (by decide +kernel)
theorem wd_402 : (Cond.selects "PlaneNet$Points" (⟨"PlaneNet$Points", "x", "(I)I"⟩ : MethodName) (⟨"PlaneNet$Points", "x", "(I)I"⟩ : MethodName)) ∈ TT := mem_TT (List.mem_of_getElem? (i := 402) (by decide +kernel)) (by decide +kernel)
theorem wd_403 : (Cond.code (⟨"PlaneNet$Points", "x", "(I)I"⟩ : MethodName) prog_4_method_5_code 2 (Option.some .int)) ∈ TT := mem_TT (List.mem_of_getElem? (i := 403) (by decide +kernel)) (by decide +kernel)
theorem wd_404 : (Cond.methodLink "PlaneNet$Outline" 92 (⟨"PlaneNet$Points", "y", "(I)I"⟩ : MethodName)) ∈ TT := mem_TT (List.mem_of_getElem? (i := 404) (by decide +kernel)) (by decide +kernel)
theorem wd_405 : (Cond.instanceMethod (⟨"PlaneNet$Points", "y", "(I)I"⟩ : MethodName)) ∈ TT := mem_TT (List.mem_of_getElem? (i := 405) (by decide +kernel)) (by decide +kernel)
theorem wd_406 : (Cond.selects "PlaneNet$Points" (⟨"PlaneNet$Points", "y", "(I)I"⟩ : MethodName) (⟨"PlaneNet$Points", "y", "(I)I"⟩ : MethodName)) ∈ TT := mem_TT (List.mem_of_getElem? (i := 406) (by decide +kernel)) (by decide +kernel)
theorem wd_407 : (Cond.code (⟨"PlaneNet$Points", "y", "(I)I"⟩ : MethodName) prog_4_method_6_code 2 (Option.some .int)) ∈ TT := mem_TT (List.mem_of_getElem? (i := 407) (by decide +kernel)) (by decide +kernel)
theorem wd_408 : (Cond.methodLink "PlaneNet$Outline" 95 (⟨"PlaneNet$Points", "turn", "(IIII)J"⟩ : MethodName)) ∈ TT := mem_TT (List.mem_of_getElem? (i := 408) (by decide +kernel)) (by decide +kernel)
theorem wd_409 : (Cond.instanceMethod (⟨"PlaneNet$Points", "turn", "(IIII)J"⟩ : MethodName)) ∈ TT := mem_TT (List.mem_of_getElem? (i := 409) (by decide +kernel)) (by decide +kernel)
theorem wd_410 : (Cond.selects "PlaneNet$Points" (⟨"PlaneNet$Points", "turn", "(IIII)J"⟩ : MethodName) (⟨"PlaneNet$Points", "turn", "(IIII)J"⟩ : MethodName)) ∈ TT := mem_TT (List.mem_of_getElem? (i := 410) (by decide +kernel)) (by decide +kernel)
theorem wd_411 : (Cond.code (⟨"PlaneNet$Points", "turn", "(IIII)J"⟩ : MethodName) prog_4_method_15_code 13 (Option.some .long)) ∈ TT := mem_TT (List.mem_of_getElem? (i := 411) (by decide +kernel)) (by decide +kernel)
theorem wd_423 : (Cond.code (⟨"PlaneNet", "add", "(II)I"⟩ : MethodName) prog_1_method_2_code 5 (Option.some .int)) ∈ TT := mem_TT (List.mem_of_getElem? (i := 423) (by decide +kernel)) (by decide +kernel)
theorem wd_424 : (Cond.methodLink "PlaneNet" 67 (⟨"PlaneNet", "checkPlace", "(II)V"⟩ : MethodName)) ∈ TT := mem_TT (List.mem_of_getElem? (i := 424) (by decide +kernel)) (by decide +kernel)
theorem wd_425 : (Cond.static (⟨"PlaneNet", "checkPlace", "(II)V"⟩ : MethodName)) ∈ TT := mem_TT (List.mem_of_getElem? (i := 425) (by decide +kernel)) (by decide +kernel)
theorem wd_426 : (Cond.code (⟨"PlaneNet", "checkPlace", "(II)V"⟩ : MethodName) prog_1_method_15_code 2 (Option.none : Option ClassFile.FieldType)) ∈ TT := mem_TT (List.mem_of_getElem? (i := 426) (by decide +kernel)) (by decide +kernel)
theorem wd_427 : (Cond.constant "PlaneNet" 181 (-1000000000)) ∈ TT := mem_TT (List.mem_of_getElem? (i := 427) (by decide +kernel)) (by decide +kernel)
theorem wd_428 : (Cond.constant "PlaneNet" 182 1000000000) ∈ TT := mem_TT (List.mem_of_getElem? (i := 428) (by decide +kernel)) (by decide +kernel)
theorem wd_497 : (Cond.methodLink "PlaneNet" 74 (⟨"PlaneNet$Points", "nearestOf", "(III)I"⟩ : MethodName)) ∈ TT := mem_TT (List.mem_of_getElem? (i := 497) (by decide +kernel)) (by decide +kernel)
theorem wd_498 : (Cond.instanceMethod (⟨"PlaneNet$Points", "nearestOf", "(III)I"⟩ : MethodName)) ∈ TT := mem_TT (List.mem_of_getElem? (i := 498) (by decide +kernel)) (by decide +kernel)
theorem wd_499 : (Cond.selects "PlaneNet$Points" (⟨"PlaneNet$Points", "nearestOf", "(III)I"⟩ : MethodName) (⟨"PlaneNet$Points", "nearestOf", "(III)I"⟩ : MethodName)) ∈ TT := mem_TT (List.mem_of_getElem? (i := 499) (by decide +kernel)) (by decide +kernel)
theorem wd_500 : (Cond.code (⟨"PlaneNet$Points", "nearestOf", "(III)I"⟩ : MethodName) prog_4_method_12_code 10 (Option.some .int)) ∈ TT := mem_TT (List.mem_of_getElem? (i := 500) (by decide +kernel)) (by decide +kernel)
theorem wd_501 : (Cond.methodLink "PlaneNet$Points" 48 (⟨"PlaneNet$Points", "gap", "(III)J"⟩ : MethodName)) ∈ TT := mem_TT (List.mem_of_getElem? (i := 501) (by decide +kernel)) (by decide +kernel)
theorem wd_502 : (Cond.instanceMethod (⟨"PlaneNet$Points", "gap", "(III)J"⟩ : MethodName)) ∈ TT := mem_TT (List.mem_of_getElem? (i := 502) (by decide +kernel)) (by decide +kernel)
theorem wd_503 : (Cond.selects "PlaneNet$Points" (⟨"PlaneNet$Points", "gap", "(III)J"⟩ : MethodName) (⟨"PlaneNet$Points", "gap", "(III)J"⟩ : MethodName)) ∈ TT := mem_TT (List.mem_of_getElem? (i := 503) (by decide +kernel)) (by decide +kernel)
theorem wd_504 : (Cond.code (⟨"PlaneNet$Points", "gap", "(III)J"⟩ : MethodName) prog_4_method_11_code 8 (Option.some .long)) ∈ TT := mem_TT (List.mem_of_getElem? (i := 504) (by decide +kernel)) (by decide +kernel)
theorem wd_505 : (Cond.methodLink "PlaneNet" 78 (⟨"PlaneNet$Points", "isAt", "(III)Z"⟩ : MethodName)) ∈ TT := mem_TT (List.mem_of_getElem? (i := 505) (by decide +kernel)) (by decide +kernel)
theorem wd_506 : (Cond.instanceMethod (⟨"PlaneNet$Points", "isAt", "(III)Z"⟩ : MethodName)) ∈ TT := mem_TT (List.mem_of_getElem? (i := 506) (by decide +kernel)) (by decide +kernel)
theorem wd_507 : (Cond.selects "PlaneNet$Points" (⟨"PlaneNet$Points", "isAt", "(III)Z"⟩ : MethodName) (⟨"PlaneNet$Points", "isAt", "(III)Z"⟩ : MethodName)) ∈ TT := mem_TT (List.mem_of_getElem? (i := 507) (by decide +kernel)) (by decide +kernel)
theorem wd_508 : (Cond.code (⟨"PlaneNet$Points", "isAt", "(III)Z"⟩ : MethodName) prog_4_method_7_code 4 (Option.some .boolean)) ∈ TT := mem_TT (List.mem_of_getElem? (i := 508) (by decide +kernel)) (by decide +kernel)
theorem wd_509 : (Cond.methodLink "PlaneNet" 82 (⟨"PlaneNet$Points", "isFull", "()Z"⟩ : MethodName)) ∈ TT := mem_TT (List.mem_of_getElem? (i := 509) (by decide +kernel)) (by decide +kernel)
theorem wd_510 : (Cond.instanceMethod (⟨"PlaneNet$Points", "isFull", "()Z"⟩ : MethodName)) ∈ TT := mem_TT (List.mem_of_getElem? (i := 510) (by decide +kernel)) (by decide +kernel)
theorem wd_511 : (Cond.selects "PlaneNet$Points" (⟨"PlaneNet$Points", "isFull", "()Z"⟩ : MethodName) (⟨"PlaneNet$Points", "isFull", "()Z"⟩ : MethodName)) ∈ TT := mem_TT (List.mem_of_getElem? (i := 511) (by decide +kernel)) (by decide +kernel)
theorem wd_512 : (Cond.code (⟨"PlaneNet$Points", "isFull", "()Z"⟩ : MethodName) prog_4_method_2_code 1 (Option.some .boolean)) ∈ TT := mem_TT (List.mem_of_getElem? (i := 512) (by decide +kernel)) (by decide +kernel)
theorem wd_529 : (Cond.methodLink "PlaneNet" 93 (⟨"PlaneNet", "makeRoom", "(I)V"⟩ : MethodName)) ∈ TT := mem_TT (List.mem_of_getElem? (i := 529) (by decide +kernel)) (by decide +kernel)
theorem wd_531 : (Cond.instanceMethod (⟨"PlaneNet", "makeRoom", "(I)V"⟩ : MethodName)) ∈ TT := mem_TT (List.mem_of_getElem? (i := 531) (by decide +kernel)) (by decide +kernel)
theorem wd_532 : (Cond.code (⟨"PlaneNet", "makeRoom", "(I)V"⟩ : MethodName) prog_1_method_17_code 2 (Option.none : Option ClassFile.FieldType)) ∈ TT := mem_TT (List.mem_of_getElem? (i := 532) (by decide +kernel)) (by decide +kernel)
theorem wd_533 : (Cond.methodLink "PlaneNet" 190 (⟨"PlaneNet$Points", "makeRoom", "(I)V"⟩ : MethodName)) ∈ TT := mem_TT (List.mem_of_getElem? (i := 533) (by decide +kernel)) (by decide +kernel)
theorem wd_534 : (Cond.instanceMethod (⟨"PlaneNet$Points", "makeRoom", "(I)V"⟩ : MethodName)) ∈ TT := mem_TT (List.mem_of_getElem? (i := 534) (by decide +kernel)) (by decide +kernel)
theorem wd_535 : (Cond.selects "PlaneNet$Points" (⟨"PlaneNet$Points", "makeRoom", "(I)V"⟩ : MethodName) (⟨"PlaneNet$Points", "makeRoom", "(I)V"⟩ : MethodName)) ∈ TT := mem_TT (List.mem_of_getElem? (i := 535) (by decide +kernel)) (by decide +kernel)
theorem wd_536 : (Cond.code (⟨"PlaneNet$Points", "makeRoom", "(I)V"⟩ : MethodName) prog_4_method_3_code 2 (Option.none : Option ClassFile.FieldType)) ∈ TT := mem_TT (List.mem_of_getElem? (i := 536) (by decide +kernel)) (by decide +kernel)
theorem wd_537 : (Cond.methodLink "PlaneNet$Points" 37 (⟨"PlaneNet$Row", "reach", "(I)V"⟩ : MethodName)) ∈ TT := mem_TT (List.mem_of_getElem? (i := 537) (by decide +kernel)) (by decide +kernel)
theorem wd_538 : (Cond.instanceMethod (⟨"PlaneNet$Row", "reach", "(I)V"⟩ : MethodName)) ∈ TT := mem_TT (List.mem_of_getElem? (i := 538) (by decide +kernel)) (by decide +kernel)
theorem wd_539 : (Cond.selects "PlaneNet$Row" (⟨"PlaneNet$Row", "reach", "(I)V"⟩ : MethodName) (⟨"PlaneNet$Row", "reach", "(I)V"⟩ : MethodName)) ∈ TT := mem_TT (List.mem_of_getElem? (i := 539) (by decide +kernel)) (by decide +kernel)
theorem wd_540 : (Cond.code (⟨"PlaneNet$Row", "reach", "(I)V"⟩ : MethodName) prog_6_method_2_code 2 (Option.none : Option ClassFile.FieldType)) ∈ TT := mem_TT (List.mem_of_getElem? (i := 540) (by decide +kernel)) (by decide +kernel)
theorem wd_541 : (Cond.methodLink "PlaneNet" 191 (⟨"PlaneNet$Net", "makeRoom", "(I)V"⟩ : MethodName)) ∈ TT := mem_TT (List.mem_of_getElem? (i := 541) (by decide +kernel)) (by decide +kernel)
theorem wd_542 : (Cond.instanceMethod (⟨"PlaneNet$Net", "makeRoom", "(I)V"⟩ : MethodName)) ∈ TT := mem_TT (List.mem_of_getElem? (i := 542) (by decide +kernel)) (by decide +kernel)
theorem wd_543 : (Cond.selects "PlaneNet$Net" (⟨"PlaneNet$Net", "makeRoom", "(I)V"⟩ : MethodName) (⟨"PlaneNet$Net", "makeRoom", "(I)V"⟩ : MethodName)) ∈ TT := mem_TT (List.mem_of_getElem? (i := 543) (by decide +kernel)) (by decide +kernel)
theorem wd_544 : (Cond.code (⟨"PlaneNet$Net", "makeRoom", "(I)V"⟩ : MethodName) prog_2_method_9_code 2 (Option.none : Option ClassFile.FieldType)) ∈ TT := mem_TT (List.mem_of_getElem? (i := 544) (by decide +kernel)) (by decide +kernel)
theorem wd_545 : (Cond.methodLink "PlaneNet$Net" 71 (⟨"PlaneNet$Row", "reach", "(I)V"⟩ : MethodName)) ∈ TT := mem_TT (List.mem_of_getElem? (i := 545) (by decide +kernel)) (by decide +kernel)
theorem wd_546 : (Cond.methodLink "PlaneNet" 192 (⟨"PlaneNet$Roll", "makeRoom", "(I)V"⟩ : MethodName)) ∈ TT := mem_TT (List.mem_of_getElem? (i := 546) (by decide +kernel)) (by decide +kernel)
theorem wd_547 : (Cond.instanceMethod (⟨"PlaneNet$Roll", "makeRoom", "(I)V"⟩ : MethodName)) ∈ TT := mem_TT (List.mem_of_getElem? (i := 547) (by decide +kernel)) (by decide +kernel)
theorem wd_548 : (Cond.selects "PlaneNet$Roll" (⟨"PlaneNet$Roll", "makeRoom", "(I)V"⟩ : MethodName) (⟨"PlaneNet$Roll", "makeRoom", "(I)V"⟩ : MethodName)) ∈ TT := mem_TT (List.mem_of_getElem? (i := 548) (by decide +kernel)) (by decide +kernel)
theorem wd_549 : (Cond.code (⟨"PlaneNet$Roll", "makeRoom", "(I)V"⟩ : MethodName) prog_5_method_2_code 2 (Option.none : Option ClassFile.FieldType)) ∈ TT := mem_TT (List.mem_of_getElem? (i := 549) (by decide +kernel)) (by decide +kernel)
theorem wd_550 : (Cond.methodLink "PlaneNet$Roll" 42 (⟨"PlaneNet$Row", "reach", "(I)V"⟩ : MethodName)) ∈ TT := mem_TT (List.mem_of_getElem? (i := 550) (by decide +kernel)) (by decide +kernel)
theorem wd_551 : (Cond.methodLink "PlaneNet" 193 (⟨"PlaneNet$Outline", "makeRoom", "(I)V"⟩ : MethodName)) ∈ TT := mem_TT (List.mem_of_getElem? (i := 551) (by decide +kernel)) (by decide +kernel)
theorem wd_552 : (Cond.instanceMethod (⟨"PlaneNet$Outline", "makeRoom", "(I)V"⟩ : MethodName)) ∈ TT := mem_TT (List.mem_of_getElem? (i := 552) (by decide +kernel)) (by decide +kernel)
theorem wd_553 : (Cond.selects "PlaneNet$Outline" (⟨"PlaneNet$Outline", "makeRoom", "(I)V"⟩ : MethodName) (⟨"PlaneNet$Outline", "makeRoom", "(I)V"⟩ : MethodName)) ∈ TT := mem_TT (List.mem_of_getElem? (i := 553) (by decide +kernel)) (by decide +kernel)
theorem wd_554 : (Cond.code (⟨"PlaneNet$Outline", "makeRoom", "(I)V"⟩ : MethodName) prog_3_method_2_code 2 (Option.none : Option ClassFile.FieldType)) ∈ TT := mem_TT (List.mem_of_getElem? (i := 554) (by decide +kernel)) (by decide +kernel)
theorem wd_555 : (Cond.methodLink "PlaneNet$Outline" 41 (⟨"PlaneNet$Row", "reach", "(I)V"⟩ : MethodName)) ∈ TT := mem_TT (List.mem_of_getElem? (i := 555) (by decide +kernel)) (by decide +kernel)
theorem wd_556 : (Cond.methodLink "PlaneNet" 96 (⟨"PlaneNet$Points", "append", "(II)I"⟩ : MethodName)) ∈ TT := mem_TT (List.mem_of_getElem? (i := 556) (by decide +kernel)) (by decide +kernel)
theorem wd_557 : (Cond.instanceMethod (⟨"PlaneNet$Points", "append", "(II)I"⟩ : MethodName)) ∈ TT := mem_TT (List.mem_of_getElem? (i := 557) (by decide +kernel)) (by decide +kernel)
theorem wd_558 : (Cond.selects "PlaneNet$Points" (⟨"PlaneNet$Points", "append", "(II)I"⟩ : MethodName) (⟨"PlaneNet$Points", "append", "(II)I"⟩ : MethodName)) ∈ TT := mem_TT (List.mem_of_getElem? (i := 558) (by decide +kernel)) (by decide +kernel)
theorem wd_559 : (Cond.code (⟨"PlaneNet$Points", "append", "(II)I"⟩ : MethodName) prog_4_method_4_code 4 (Option.some .int)) ∈ TT := mem_TT (List.mem_of_getElem? (i := 559) (by decide +kernel)) (by decide +kernel)
theorem wd_560 : (Cond.methodLink "PlaneNet$Points" 40 (⟨"PlaneNet$Row", "put", "(II)V"⟩ : MethodName)) ∈ TT := mem_TT (List.mem_of_getElem? (i := 560) (by decide +kernel)) (by decide +kernel)
theorem wd_561 : (Cond.methodLink "PlaneNet" 99 (⟨"PlaneNet", "noteClosest", "(II)V"⟩ : MethodName)) ∈ TT := mem_TT (List.mem_of_getElem? (i := 561) (by decide +kernel)) (by decide +kernel)
theorem wd_563 : (Cond.instanceMethod (⟨"PlaneNet", "noteClosest", "(II)V"⟩ : MethodName)) ∈ TT := mem_TT (List.mem_of_getElem? (i := 563) (by decide +kernel)) (by decide +kernel)
theorem wd_564 : (Cond.code (⟨"PlaneNet", "noteClosest", "(II)V"⟩ : MethodName) prog_1_method_18_code 5 (Option.none : Option ClassFile.FieldType)) ∈ TT := mem_TT (List.mem_of_getElem? (i := 564) (by decide +kernel)) (by decide +kernel)
theorem wd_565 : (Cond.methodLink "PlaneNet" 175 (⟨"PlaneNet$Points", "x", "(I)I"⟩ : MethodName)) ∈ TT := mem_TT (List.mem_of_getElem? (i := 565) (by decide +kernel)) (by decide +kernel)
theorem wd_566 : (Cond.methodLink "PlaneNet" 178 (⟨"PlaneNet$Points", "y", "(I)I"⟩ : MethodName)) ∈ TT := mem_TT (List.mem_of_getElem? (i := 566) (by decide +kernel)) (by decide +kernel)
theorem wd_567 : (Cond.methodLink "PlaneNet" 194 (⟨"PlaneNet$Points", "gap", "(III)J"⟩ : MethodName)) ∈ TT := mem_TT (List.mem_of_getElem? (i := 567) (by decide +kernel)) (by decide +kernel)
theorem wd_568 : (Cond.methodLink "PlaneNet" 102 (⟨"PlaneNet$Net", "isEmpty", "()Z"⟩ : MethodName)) ∈ TT := mem_TT (List.mem_of_getElem? (i := 568) (by decide +kernel)) (by decide +kernel)
theorem wd_569 : (Cond.methodLink "PlaneNet" 105 (⟨"PlaneNet", "tryToBeginNet", "(I)V"⟩ : MethodName)) ∈ TT := mem_TT (List.mem_of_getElem? (i := 569) (by decide +kernel)) (by decide +kernel)
theorem wd_571 : (Cond.instanceMethod (⟨"PlaneNet", "tryToBeginNet", "(I)V"⟩ : MethodName)) ∈ TT := mem_TT (List.mem_of_getElem? (i := 571) (by decide +kernel)) (by decide +kernel)
theorem wd_572 : (Cond.code (⟨"PlaneNet", "tryToBeginNet", "(I)V"⟩ : MethodName) prog_1_method_19_code 5 (Option.none : Option ClassFile.FieldType)) ∈ TT := mem_TT (List.mem_of_getElem? (i := 572) (by decide +kernel)) (by decide +kernel)
theorem wd_573 : (Cond.methodLink "PlaneNet" 198 (⟨"PlaneNet$Points", "turn", "(IIII)J"⟩ : MethodName)) ∈ TT := mem_TT (List.mem_of_getElem? (i := 573) (by decide +kernel)) (by decide +kernel)
theorem wd_574 : (Cond.methodLink "PlaneNet" 202 (⟨"PlaneNet$Net", "begin", "(III)V"⟩ : MethodName)) ∈ TT := mem_TT (List.mem_of_getElem? (i := 574) (by decide +kernel)) (by decide +kernel)
theorem wd_575 : (Cond.instanceMethod (⟨"PlaneNet$Net", "begin", "(III)V"⟩ : MethodName)) ∈ TT := mem_TT (List.mem_of_getElem? (i := 575) (by decide +kernel)) (by decide +kernel)
theorem wd_576 : (Cond.selects "PlaneNet$Net" (⟨"PlaneNet$Net", "begin", "(III)V"⟩ : MethodName) (⟨"PlaneNet$Net", "begin", "(III)V"⟩ : MethodName)) ∈ TT := mem_TT (List.mem_of_getElem? (i := 576) (by decide +kernel)) (by decide +kernel)
theorem wd_577 : (Cond.code (⟨"PlaneNet$Net", "begin", "(III)V"⟩ : MethodName) prog_2_method_10_code 4 (Option.none : Option ClassFile.FieldType)) ∈ TT := mem_TT (List.mem_of_getElem? (i := 577) (by decide +kernel)) (by decide +kernel)
theorem wd_578 : (Cond.methodLink "PlaneNet$Net" 74 (⟨"PlaneNet$Net", "setTriangle", "(IIII)V"⟩ : MethodName)) ∈ TT := mem_TT (List.mem_of_getElem? (i := 578) (by decide +kernel)) (by decide +kernel)
theorem wd_580 : (Cond.instanceMethod (⟨"PlaneNet$Net", "setTriangle", "(IIII)V"⟩ : MethodName)) ∈ TT := mem_TT (List.mem_of_getElem? (i := 580) (by decide +kernel)) (by decide +kernel)
theorem wd_581 : (Cond.code (⟨"PlaneNet$Net", "setTriangle", "(IIII)V"⟩ : MethodName) prog_2_method_11_code 6 (Option.none : Option ClassFile.FieldType)) ∈ TT := mem_TT (List.mem_of_getElem? (i := 581) (by decide +kernel)) (by decide +kernel)
theorem wd_582 : (Cond.methodLink "PlaneNet$Net" 82 (⟨"PlaneNet$Row", "put", "(II)V"⟩ : MethodName)) ∈ TT := mem_TT (List.mem_of_getElem? (i := 582) (by decide +kernel)) (by decide +kernel)
theorem wd_583 : (Cond.methodLink "PlaneNet$Net" 78 (⟨"PlaneNet$Net", "join", "(II)V"⟩ : MethodName)) ∈ TT := mem_TT (List.mem_of_getElem? (i := 583) (by decide +kernel)) (by decide +kernel)
theorem wd_585 : (Cond.instanceMethod (⟨"PlaneNet$Net", "join", "(II)V"⟩ : MethodName)) ∈ TT := mem_TT (List.mem_of_getElem? (i := 585) (by decide +kernel)) (by decide +kernel)
theorem wd_586 : (Cond.code (⟨"PlaneNet$Net", "join", "(II)V"⟩ : MethodName) prog_2_method_13_code 3 (Option.none : Option ClassFile.FieldType)) ∈ TT := mem_TT (List.mem_of_getElem? (i := 586) (by decide +kernel)) (by decide +kernel)
theorem wd_587 : (Cond.methodLink "PlaneNet" 108 (⟨"PlaneNet$Net", "insert", "(II)V"⟩ : MethodName)) ∈ TT := mem_TT (List.mem_of_getElem? (i := 587) (by decide +kernel)) (by decide +kernel)
theorem wd_588 : (Cond.instanceMethod (⟨"PlaneNet$Net", "insert", "(II)V"⟩ : MethodName)) ∈ TT := mem_TT (List.mem_of_getElem? (i := 588) (by decide +kernel)) (by decide +kernel)
theorem wd_589 : (Cond.selects "PlaneNet$Net" (⟨"PlaneNet$Net", "insert", "(II)V"⟩ : MethodName) (⟨"PlaneNet$Net", "insert", "(II)V"⟩ : MethodName)) ∈ TT := mem_TT (List.mem_of_getElem? (i := 589) (by decide +kernel)) (by decide +kernel)
theorem wd_590 : (Cond.code (⟨"PlaneNet$Net", "insert", "(II)V"⟩ : MethodName) prog_2_method_14_code 3 (Option.none : Option ClassFile.FieldType)) ∈ TT := mem_TT (List.mem_of_getElem? (i := 590) (by decide +kernel)) (by decide +kernel)
theorem wd_591 : (Cond.methodLink "PlaneNet$Net" 88 (⟨"PlaneNet$Points", "x", "(I)I"⟩ : MethodName)) ∈ TT := mem_TT (List.mem_of_getElem? (i := 591) (by decide +kernel)) (by decide +kernel)
theorem wd_592 : (Cond.methodLink "PlaneNet$Net" 91 (⟨"PlaneNet$Points", "y", "(I)I"⟩ : MethodName)) ∈ TT := mem_TT (List.mem_of_getElem? (i := 592) (by decide +kernel)) (by decide +kernel)
theorem wd_593 : (Cond.methodLink "PlaneNet$Net" 94 (⟨"PlaneNet$Net", "holder", "(III)I"⟩ : MethodName)) ∈ TT := mem_TT (List.mem_of_getElem? (i := 593) (by decide +kernel)) (by decide +kernel)
theorem wd_594 : (Cond.instanceMethod (⟨"PlaneNet$Net", "holder", "(III)I"⟩ : MethodName)) ∈ TT := mem_TT (List.mem_of_getElem? (i := 594) (by decide +kernel)) (by decide +kernel)
theorem wd_595 : (Cond.selects "PlaneNet$Net" (⟨"PlaneNet$Net", "holder", "(III)I"⟩ : MethodName) (⟨"PlaneNet$Net", "holder", "(III)I"⟩ : MethodName)) ∈ TT := mem_TT (List.mem_of_getElem? (i := 595) (by decide +kernel)) (by decide +kernel)
theorem wd_596 : (Cond.code (⟨"PlaneNet$Net", "holder", "(III)I"⟩ : MethodName) prog_2_method_21_code 7 (Option.some .int)) ∈ TT := mem_TT (List.mem_of_getElem? (i := 596) (by decide +kernel)) (by decide +kernel)
theorem wd_597 : (Cond.methodLink "PlaneNet$Net" 107 (⟨"PlaneNet$Net", "isOuter", "(I)Z"⟩ : MethodName)) ∈ TT := mem_TT (List.mem_of_getElem? (i := 597) (by decide +kernel)) (by decide +kernel)
theorem wd_598 : (Cond.instanceMethod (⟨"PlaneNet$Net", "isOuter", "(I)Z"⟩ : MethodName)) ∈ TT := mem_TT (List.mem_of_getElem? (i := 598) (by decide +kernel)) (by decide +kernel)
theorem wd_599 : (Cond.selects "PlaneNet$Net" (⟨"PlaneNet$Net", "isOuter", "(I)Z"⟩ : MethodName) (⟨"PlaneNet$Net", "isOuter", "(I)Z"⟩ : MethodName)) ∈ TT := mem_TT (List.mem_of_getElem? (i := 599) (by decide +kernel)) (by decide +kernel)
theorem wd_600 : (Cond.code (⟨"PlaneNet$Net", "isOuter", "(I)Z"⟩ : MethodName) prog_2_method_19_code 3 (Option.some .boolean)) ∈ TT := mem_TT (List.mem_of_getElem? (i := 600) (by decide +kernel)) (by decide +kernel)
theorem wd_601 : (Cond.methodLink "PlaneNet$Net" 125 (⟨"PlaneNet$Net", "baseOf", "(I)I"⟩ : MethodName)) ∈ TT := mem_TT (List.mem_of_getElem? (i := 601) (by decide +kernel)) (by decide +kernel)
theorem wd_603 : (Cond.instanceMethod (⟨"PlaneNet$Net", "baseOf", "(I)I"⟩ : MethodName)) ∈ TT := mem_TT (List.mem_of_getElem? (i := 603) (by decide +kernel)) (by decide +kernel)
theorem wd_604 : (Cond.code (⟨"PlaneNet$Net", "baseOf", "(I)I"⟩ : MethodName) prog_2_method_20_code 4 (Option.some .int)) ∈ TT := mem_TT (List.mem_of_getElem? (i := 604) (by decide +kernel)) (by decide +kernel)
theorem wd_605 : (Cond.methodLink "PlaneNet$Net" 135 (⟨"PlaneNet$Net", "wayOut", "(III)I"⟩ : MethodName)) ∈ TT := mem_TT (List.mem_of_getElem? (i := 605) (by decide +kernel)) (by decide +kernel)
theorem wd_607 : (Cond.instanceMethod (⟨"PlaneNet$Net", "wayOut", "(III)I"⟩ : MethodName)) ∈ TT := mem_TT (List.mem_of_getElem? (i := 607) (by decide +kernel)) (by decide +kernel)
theorem wd_608 : (Cond.code (⟨"PlaneNet$Net", "wayOut", "(III)I"⟩ : MethodName) prog_2_method_22_code 6 (Option.some .int)) ∈ TT := mem_TT (List.mem_of_getElem? (i := 608) (by decide +kernel)) (by decide +kernel)
theorem wd_609 : (Cond.methodLink "PlaneNet$Net" 115 (⟨"PlaneNet$Net", "startOf", "(I)I"⟩ : MethodName)) ∈ TT := mem_TT (List.mem_of_getElem? (i := 609) (by decide +kernel)) (by decide +kernel)
theorem wd_610 : (Cond.methodLink "PlaneNet$Net" 128 (⟨"PlaneNet$Points", "turn", "(IIII)J"⟩ : MethodName)) ∈ TT := mem_TT (List.mem_of_getElem? (i := 610) (by decide +kernel)) (by decide +kernel)
theorem wd_611 : (Cond.methodLink "PlaneNet$Net" 98 (⟨"PlaneNet$Net", "dig", "(II)V"⟩ : MethodName)) ∈ TT := mem_TT (List.mem_of_getElem? (i := 611) (by decide +kernel)) (by decide +kernel)
theorem wd_613 : (Cond.instanceMethod (⟨"PlaneNet$Net", "dig", "(II)V"⟩ : MethodName)) ∈ TT := mem_TT (List.mem_of_getElem? (i := 613) (by decide +kernel)) (by decide +kernel)
theorem wd_614 : (Cond.code (⟨"PlaneNet$Net", "dig", "(II)V"⟩ : MethodName) prog_2_method_15_code 8 (Option.none : Option ClassFile.FieldType)) ∈ TT := mem_TT (List.mem_of_getElem? (i := 614) (by decide +kernel)) (by decide +kernel)
theorem wd_615 : (Cond.methodLink "PlaneNet$Net" 104 (⟨"PlaneNet$Net", "takeAway", "(I)V"⟩ : MethodName)) ∈ TT := mem_TT (List.mem_of_getElem? (i := 615) (by decide +kernel)) (by decide +kernel)
theorem wd_617 : (Cond.instanceMethod (⟨"PlaneNet$Net", "takeAway", "(I)V"⟩ : MethodName)) ∈ TT := mem_TT (List.mem_of_getElem? (i := 617) (by decide +kernel)) (by decide +kernel)
theorem wd_618 : (Cond.code (⟨"PlaneNet$Net", "takeAway", "(I)V"⟩ : MethodName) prog_2_method_16_code 2 (Option.none : Option ClassFile.FieldType)) ∈ TT := mem_TT (List.mem_of_getElem? (i := 618) (by decide +kernel)) (by decide +kernel)
theorem wd_619 : (Cond.methodLink "PlaneNet$Net" 111 (⟨"PlaneNet$Net", "isSeen", "(II)Z"⟩ : MethodName)) ∈ TT := mem_TT (List.mem_of_getElem? (i := 619) (by decide +kernel)) (by decide +kernel)
theorem wd_621 : (Cond.instanceMethod (⟨"PlaneNet$Net", "isSeen", "(II)Z"⟩ : MethodName)) ∈ TT := mem_TT (List.mem_of_getElem? (i := 621) (by decide +kernel)) (by decide +kernel)
theorem wd_622 : (Cond.code (⟨"PlaneNet$Net", "isSeen", "(II)Z"⟩ : MethodName) prog_2_method_18_code 8 (Option.some .boolean)) ∈ TT := mem_TT (List.mem_of_getElem? (i := 622) (by decide +kernel)) (by decide +kernel)
theorem wd_623 : (Cond.methodLink "PlaneNet$Net" 132 (⟨"PlaneNet$Points", "isLess", "(II)Z"⟩ : MethodName)) ∈ TT := mem_TT (List.mem_of_getElem? (i := 623) (by decide +kernel)) (by decide +kernel)
theorem wd_624 : (Cond.methodLink "PlaneNet$Net" 121 (⟨"PlaneNet$Points", "takesAway", "(IIII)Z"⟩ : MethodName)) ∈ TT := mem_TT (List.mem_of_getElem? (i := 624) (by decide +kernel)) (by decide +kernel)
theorem wd_625 : (Cond.instanceMethod (⟨"PlaneNet$Points", "takesAway", "(IIII)Z"⟩ : MethodName)) ∈ TT := mem_TT (List.mem_of_getElem? (i := 625) (by decide +kernel)) (by decide +kernel)
theorem wd_626 : (Cond.selects "PlaneNet$Points" (⟨"PlaneNet$Points", "takesAway", "(IIII)Z"⟩ : MethodName) (⟨"PlaneNet$Points", "takesAway", "(IIII)Z"⟩ : MethodName)) ∈ TT := mem_TT (List.mem_of_getElem? (i := 626) (by decide +kernel)) (by decide +kernel)
theorem wd_627 : (Cond.code (⟨"PlaneNet$Points", "takesAway", "(IIII)Z"⟩ : MethodName) prog_4_method_17_code 6 (Option.some .boolean)) ∈ TT := mem_TT (List.mem_of_getElem? (i := 627) (by decide +kernel)) (by decide +kernel)
theorem wd_628 : (Cond.methodLink "PlaneNet$Points" 63 (⟨"PlaneNet$Wide", "reset", "()V"⟩ : MethodName)) ∈ TT := mem_TT (List.mem_of_getElem? (i := 628) (by decide +kernel)) (by decide +kernel)
theorem wd_629 : (Cond.instanceMethod (⟨"PlaneNet$Wide", "reset", "()V"⟩ : MethodName)) ∈ TT := mem_TT (List.mem_of_getElem? (i := 629) (by decide +kernel)) (by decide +kernel)
theorem wd_630 : (Cond.selects "PlaneNet$Wide" (⟨"PlaneNet$Wide", "reset", "()V"⟩ : MethodName) (⟨"PlaneNet$Wide", "reset", "()V"⟩ : MethodName)) ∈ TT := mem_TT (List.mem_of_getElem? (i := 630) (by decide +kernel)) (by decide +kernel)
theorem wd_631 : (Cond.code (⟨"PlaneNet$Wide", "reset", "()V"⟩ : MethodName) prog_7_method_2_code 1 (Option.none : Option ClassFile.FieldType)) ∈ TT := mem_TT (List.mem_of_getElem? (i := 631) (by decide +kernel)) (by decide +kernel)
theorem wd_632 : (Cond.methodLink "PlaneNet$Points" 66 (⟨"PlaneNet$Points", "turn", "(IIII)J"⟩ : MethodName)) ∈ TT := mem_TT (List.mem_of_getElem? (i := 632) (by decide +kernel)) (by decide +kernel)
theorem wd_633 : (Cond.methodLink "PlaneNet$Points" 70 (⟨"PlaneNet$Points", "dot", "(III)J"⟩ : MethodName)) ∈ TT := mem_TT (List.mem_of_getElem? (i := 633) (by decide +kernel)) (by decide +kernel)
theorem wd_635 : (Cond.instanceMethod (⟨"PlaneNet$Points", "dot", "(III)J"⟩ : MethodName)) ∈ TT := mem_TT (List.mem_of_getElem? (i := 635) (by decide +kernel)) (by decide +kernel)
theorem wd_636 : (Cond.code (⟨"PlaneNet$Points", "dot", "(III)J"⟩ : MethodName) prog_4_method_16_code 12 (Option.some .long)) ∈ TT := mem_TT (List.mem_of_getElem? (i := 636) (by decide +kernel)) (by decide +kernel)
theorem wd_637 : (Cond.methodLink "PlaneNet$Points" 73 (⟨"PlaneNet$Wide", "addProduct", "(JJ)V"⟩ : MethodName)) ∈ TT := mem_TT (List.mem_of_getElem? (i := 637) (by decide +kernel)) (by decide +kernel)
theorem wd_638 : (Cond.instanceMethod (⟨"PlaneNet$Wide", "addProduct", "(JJ)V"⟩ : MethodName)) ∈ TT := mem_TT (List.mem_of_getElem? (i := 638) (by decide +kernel)) (by decide +kernel)
theorem wd_639 : (Cond.selects "PlaneNet$Wide" (⟨"PlaneNet$Wide", "addProduct", "(JJ)V"⟩ : MethodName) (⟨"PlaneNet$Wide", "addProduct", "(JJ)V"⟩ : MethodName)) ∈ TT := mem_TT (List.mem_of_getElem? (i := 639) (by decide +kernel)) (by decide +kernel)
theorem wd_640 : (Cond.code (⟨"PlaneNet$Wide", "addProduct", "(JJ)V"⟩ : MethodName) prog_7_method_3_code 25 (Option.none : Option ClassFile.FieldType)) ∈ TT := mem_TT (List.mem_of_getElem? (i := 640) (by decide +kernel)) (by decide +kernel)
theorem wd_641 : (Cond.constantLong "PlaneNet$Wide" 16 4294967295) ∈ TT := mem_TT (List.mem_of_getElem? (i := 641) (by decide +kernel)) (by decide +kernel)
theorem wd_642 : (Cond.constantLong "PlaneNet$Wide" 18 (-1)) ∈ TT := mem_TT (List.mem_of_getElem? (i := 642) (by decide +kernel)) (by decide +kernel)
theorem wd_643 : (Cond.methodLink "PlaneNet$Points" 77 (⟨"PlaneNet$Wide", "sign", "()I"⟩ : MethodName)) ∈ TT := mem_TT (List.mem_of_getElem? (i := 643) (by decide +kernel)) (by decide +kernel)
theorem wd_644 : (Cond.instanceMethod (⟨"PlaneNet$Wide", "sign", "()I"⟩ : MethodName)) ∈ TT := mem_TT (List.mem_of_getElem? (i := 644) (by decide +kernel)) (by decide +kernel)
theorem wd_645 : (Cond.selects "PlaneNet$Wide" (⟨"PlaneNet$Wide", "sign", "()I"⟩ : MethodName) (⟨"PlaneNet$Wide", "sign", "()I"⟩ : MethodName)) ∈ TT := mem_TT (List.mem_of_getElem? (i := 645) (by decide +kernel)) (by decide +kernel)
theorem wd_646 : (Cond.code (⟨"PlaneNet$Wide", "sign", "()I"⟩ : MethodName) prog_7_method_4_code 1 (Option.some .int)) ∈ TT := mem_TT (List.mem_of_getElem? (i := 646) (by decide +kernel)) (by decide +kernel)
theorem wd_647 : (Cond.methodLink "PlaneNet$Net" 101 (⟨"PlaneNet$Net", "fill", "(I)V"⟩ : MethodName)) ∈ TT := mem_TT (List.mem_of_getElem? (i := 647) (by decide +kernel)) (by decide +kernel)
theorem wd_649 : (Cond.instanceMethod (⟨"PlaneNet$Net", "fill", "(I)V"⟩ : MethodName)) ∈ TT := mem_TT (List.mem_of_getElem? (i := 649) (by decide +kernel)) (by decide +kernel)
theorem wd_650 : (Cond.code (⟨"PlaneNet$Net", "fill", "(I)V"⟩ : MethodName) prog_2_method_17_code 5 (Option.none : Option ClassFile.FieldType)) ∈ TT := mem_TT (List.mem_of_getElem? (i := 650) (by decide +kernel)) (by decide +kernel)
theorem wd_657 : (Cond.code (⟨"PlaneNet", "find", "(II)I"⟩ : MethodName) prog_1_method_4_code 4 (Option.some .int)) ∈ TT := mem_TT (List.mem_of_getElem? (i := 657) (by decide +kernel)) (by decide +kernel)
theorem wd_665 : (Cond.code (⟨"PlaneNet", "triangle", "(II)I"⟩ : MethodName) prog_1_method_5_code 3 (Option.some .int)) ∈ TT := mem_TT (List.mem_of_getElem? (i := 665) (by decide +kernel)) (by decide +kernel)
theorem wd_682 : (Cond.methodLink "PlaneNet" 126 (⟨"PlaneNet$Roll", "edge", "(I)I"⟩ : MethodName)) ∈ TT := mem_TT (List.mem_of_getElem? (i := 682) (by decide +kernel)) (by decide +kernel)
theorem wd_683 : (Cond.instanceMethod (⟨"PlaneNet$Roll", "edge", "(I)I"⟩ : MethodName)) ∈ TT := mem_TT (List.mem_of_getElem? (i := 683) (by decide +kernel)) (by decide +kernel)
theorem wd_684 : (Cond.selects "PlaneNet$Roll" (⟨"PlaneNet$Roll", "edge", "(I)I"⟩ : MethodName) (⟨"PlaneNet$Roll", "edge", "(I)I"⟩ : MethodName)) ∈ TT := mem_TT (List.mem_of_getElem? (i := 684) (by decide +kernel)) (by decide +kernel)
theorem wd_685 : (Cond.code (⟨"PlaneNet$Roll", "edge", "(I)I"⟩ : MethodName) prog_5_method_4_code 2 (Option.some .int)) ∈ TT := mem_TT (List.mem_of_getElem? (i := 685) (by decide +kernel)) (by decide +kernel)
theorem wd_686 : (Cond.methodLink "PlaneNet$Roll" 45 (⟨"PlaneNet$Roll", "sortAll", "()V"⟩ : MethodName)) ∈ TT := mem_TT (List.mem_of_getElem? (i := 686) (by decide +kernel)) (by decide +kernel)
theorem wd_688 : (Cond.instanceMethod (⟨"PlaneNet$Roll", "sortAll", "()V"⟩ : MethodName)) ∈ TT := mem_TT (List.mem_of_getElem? (i := 688) (by decide +kernel)) (by decide +kernel)
theorem wd_689 : (Cond.code (⟨"PlaneNet$Roll", "sortAll", "()V"⟩ : MethodName) prog_5_method_5_code 2 (Option.none : Option ClassFile.FieldType)) ∈ TT := mem_TT (List.mem_of_getElem? (i := 689) (by decide +kernel)) (by decide +kernel)
theorem wd_690 : (Cond.methodLink "PlaneNet$Roll" 52 (⟨"PlaneNet$Roll", "gather", "()I"⟩ : MethodName)) ∈ TT := mem_TT (List.mem_of_getElem? (i := 690) (by decide +kernel)) (by decide +kernel)
theorem wd_692 : (Cond.instanceMethod (⟨"PlaneNet$Roll", "gather", "()I"⟩ : MethodName)) ∈ TT := mem_TT (List.mem_of_getElem? (i := 692) (by decide +kernel)) (by decide +kernel)
theorem wd_693 : (Cond.code (⟨"PlaneNet$Roll", "gather", "()I"⟩ : MethodName) prog_5_method_6_code 3 (Option.some .int)) ∈ TT := mem_TT (List.mem_of_getElem? (i := 693) (by decide +kernel)) (by decide +kernel)
theorem wd_694 : (Cond.methodLink "PlaneNet$Roll" 60 (⟨"PlaneNet$Net", "edgeCount", "()I"⟩ : MethodName)) ∈ TT := mem_TT (List.mem_of_getElem? (i := 694) (by decide +kernel)) (by decide +kernel)
theorem wd_695 : (Cond.instanceMethod (⟨"PlaneNet$Net", "edgeCount", "()I"⟩ : MethodName)) ∈ TT := mem_TT (List.mem_of_getElem? (i := 695) (by decide +kernel)) (by decide +kernel)
theorem wd_696 : (Cond.selects "PlaneNet$Net" (⟨"PlaneNet$Net", "edgeCount", "()I"⟩ : MethodName) (⟨"PlaneNet$Net", "edgeCount", "()I"⟩ : MethodName)) ∈ TT := mem_TT (List.mem_of_getElem? (i := 696) (by decide +kernel)) (by decide +kernel)
theorem wd_697 : (Cond.code (⟨"PlaneNet$Net", "edgeCount", "()I"⟩ : MethodName) prog_2_method_5_code 1 (Option.some .int)) ∈ TT := mem_TT (List.mem_of_getElem? (i := 697) (by decide +kernel)) (by decide +kernel)
theorem wd_698 : (Cond.methodLink "PlaneNet$Roll" 65 (⟨"PlaneNet$Net", "isOuter", "(I)Z"⟩ : MethodName)) ∈ TT := mem_TT (List.mem_of_getElem? (i := 698) (by decide +kernel)) (by decide +kernel)
theorem wd_699 : (Cond.methodLink "PlaneNet$Roll" 69 (⟨"PlaneNet$Net", "lowestFirst", "(I)I"⟩ : MethodName)) ∈ TT := mem_TT (List.mem_of_getElem? (i := 699) (by decide +kernel)) (by decide +kernel)
theorem wd_700 : (Cond.instanceMethod (⟨"PlaneNet$Net", "lowestFirst", "(I)I"⟩ : MethodName)) ∈ TT := mem_TT (List.mem_of_getElem? (i := 700) (by decide +kernel)) (by decide +kernel)
theorem wd_701 : (Cond.selects "PlaneNet$Net" (⟨"PlaneNet$Net", "lowestFirst", "(I)I"⟩ : MethodName) (⟨"PlaneNet$Net", "lowestFirst", "(I)I"⟩ : MethodName)) ∈ TT := mem_TT (List.mem_of_getElem? (i := 701) (by decide +kernel)) (by decide +kernel)
theorem wd_702 : (Cond.code (⟨"PlaneNet$Net", "lowestFirst", "(I)I"⟩ : MethodName) prog_2_method_23_code 5 (Option.some .int)) ∈ TT := mem_TT (List.mem_of_getElem? (i := 702) (by decide +kernel)) (by decide +kernel)
theorem wd_703 : (Cond.methodLink "PlaneNet$Roll" 72 (⟨"PlaneNet$Row", "put", "(II)V"⟩ : MethodName)) ∈ TT := mem_TT (List.mem_of_getElem? (i := 703) (by decide +kernel)) (by decide +kernel)
theorem wd_704 : (Cond.methodLink "PlaneNet$Roll" 56 (⟨"PlaneNet$Roll", "sortInto", "(LPlaneNet$Row;LPlaneNet$Row;II)V"⟩ : MethodName)) ∈ TT := mem_TT (List.mem_of_getElem? (i := 704) (by decide +kernel)) (by decide +kernel)
theorem wd_706 : (Cond.instanceMethod (⟨"PlaneNet$Roll", "sortInto", "(LPlaneNet$Row;LPlaneNet$Row;II)V"⟩ : MethodName)) ∈ TT := mem_TT (List.mem_of_getElem? (i := 706) (by decide +kernel)) (by decide +kernel)
theorem wd_707 : (Cond.code (⟨"PlaneNet$Roll", "sortInto", "(LPlaneNet$Row;LPlaneNet$Row;II)V"⟩ : MethodName) prog_5_method_7_code 9 (Option.none : Option ClassFile.FieldType)) ∈ TT := mem_TT (List.mem_of_getElem? (i := 707) (by decide +kernel)) (by decide +kernel)
theorem wd_708 : (Cond.methodLink "PlaneNet$Roll" 48 (⟨"PlaneNet$Row", "get", "(I)I"⟩ : MethodName)) ∈ TT := mem_TT (List.mem_of_getElem? (i := 708) (by decide +kernel)) (by decide +kernel)
theorem wd_709 : (Cond.methodLink "PlaneNet$Roll" 79 (⟨"PlaneNet$Net", "ahead", "(II)I"⟩ : MethodName)) ∈ TT := mem_TT (List.mem_of_getElem? (i := 709) (by decide +kernel)) (by decide +kernel)
theorem wd_710 : (Cond.methodLink "PlaneNet$Roll" 83 (⟨"PlaneNet$Net", "startOf", "(I)I"⟩ : MethodName)) ∈ TT := mem_TT (List.mem_of_getElem? (i := 710) (by decide +kernel)) (by decide +kernel)
theorem wd_711 : (Cond.methodLink "PlaneNet" 130 (⟨"PlaneNet$Net", "ahead", "(II)I"⟩ : MethodName)) ∈ TT := mem_TT (List.mem_of_getElem? (i := 711) (by decide +kernel)) (by decide +kernel)
theorem wd_712 : (Cond.methodLink "PlaneNet" 133 (⟨"PlaneNet$Net", "startOf", "(I)I"⟩ : MethodName)) ∈ TT := mem_TT (List.mem_of_getElem? (i := 712) (by decide +kernel)) (by decide +kernel)
theorem wd_719 : (Cond.code (⟨"PlaneNet", "neighbours", "(I)I"⟩ : MethodName) prog_1_method_6_code 2 (Option.some .int)) ∈ TT := mem_TT (List.mem_of_getElem? (i := 719) (by decide +kernel)) (by decide +kernel)
theorem wd_720 : (Cond.methodLink "PlaneNet" 136 (⟨"PlaneNet", "checkNumber", "(I)V"⟩ : MethodName)) ∈ TT := mem_TT (List.mem_of_getElem? (i := 720) (by decide +kernel)) (by decide +kernel)
theorem wd_722 : (Cond.instanceMethod (⟨"PlaneNet", "checkNumber", "(I)V"⟩ : MethodName)) ∈ TT := mem_TT (List.mem_of_getElem? (i := 722) (by decide +kernel)) (by decide +kernel)
theorem wd_723 : (Cond.code (⟨"PlaneNet", "checkNumber", "(I)V"⟩ : MethodName) prog_1_method_16_code 2 (Option.none : Option ClassFile.FieldType)) ∈ TT := mem_TT (List.mem_of_getElem? (i := 723) (by decide +kernel)) (by decide +kernel)
theorem wd_725 : (Cond.methodLink "PlaneNet" 139 (⟨"PlaneNet", "neighbourCount", "(I)I"⟩ : MethodName)) ∈ TT := mem_TT (List.mem_of_getElem? (i := 725) (by decide +kernel)) (by decide +kernel)
theorem wd_727 : (Cond.instanceMethod (⟨"PlaneNet", "neighbourCount", "(I)I"⟩ : MethodName)) ∈ TT := mem_TT (List.mem_of_getElem? (i := 727) (by decide +kernel)) (by decide +kernel)
theorem wd_728 : (Cond.code (⟨"PlaneNet", "neighbourCount", "(I)I"⟩ : MethodName) prog_1_method_22_code 3 (Option.some .int)) ∈ TT := mem_TT (List.mem_of_getElem? (i := 728) (by decide +kernel)) (by decide +kernel)
theorem wd_729 : (Cond.methodLink "PlaneNet" 216 (⟨"PlaneNet$Net", "degree", "(I)I"⟩ : MethodName)) ∈ TT := mem_TT (List.mem_of_getElem? (i := 729) (by decide +kernel)) (by decide +kernel)
theorem wd_730 : (Cond.instanceMethod (⟨"PlaneNet$Net", "degree", "(I)I"⟩ : MethodName)) ∈ TT := mem_TT (List.mem_of_getElem? (i := 730) (by decide +kernel)) (by decide +kernel)
theorem wd_731 : (Cond.selects "PlaneNet$Net" (⟨"PlaneNet$Net", "degree", "(I)I"⟩ : MethodName) (⟨"PlaneNet$Net", "degree", "(I)I"⟩ : MethodName)) ∈ TT := mem_TT (List.mem_of_getElem? (i := 731) (by decide +kernel)) (by decide +kernel)
theorem wd_732 : (Cond.code (⟨"PlaneNet$Net", "degree", "(I)I"⟩ : MethodName) prog_2_method_25_code 6 (Option.some .int)) ∈ TT := mem_TT (List.mem_of_getElem? (i := 732) (by decide +kernel)) (by decide +kernel)
theorem wd_733 : (Cond.methodLink "PlaneNet" 219 (⟨"PlaneNet$Points", "greatestBelow", "(II)I"⟩ : MethodName)) ∈ TT := mem_TT (List.mem_of_getElem? (i := 733) (by decide +kernel)) (by decide +kernel)
theorem wd_734 : (Cond.methodLink "PlaneNet" 222 (⟨"PlaneNet$Points", "leastAbove", "(II)I"⟩ : MethodName)) ∈ TT := mem_TT (List.mem_of_getElem? (i := 734) (by decide +kernel)) (by decide +kernel)
theorem wd_741 : (Cond.code (⟨"PlaneNet", "neighbour", "(II)I"⟩ : MethodName) prog_1_method_7_code 3 (Option.some .int)) ∈ TT := mem_TT (List.mem_of_getElem? (i := 741) (by decide +kernel)) (by decide +kernel)
theorem wd_743 : (Cond.methodLink "PlaneNet" 144 (⟨"PlaneNet", "neighbourOnLine", "(II)I"⟩ : MethodName)) ∈ TT := mem_TT (List.mem_of_getElem? (i := 743) (by decide +kernel)) (by decide +kernel)
theorem wd_745 : (Cond.instanceMethod (⟨"PlaneNet", "neighbourOnLine", "(II)I"⟩ : MethodName)) ∈ TT := mem_TT (List.mem_of_getElem? (i := 745) (by decide +kernel)) (by decide +kernel)
theorem wd_746 : (Cond.code (⟨"PlaneNet", "neighbourOnLine", "(II)I"⟩ : MethodName) prog_1_method_23_code 5 (Option.some .int)) ∈ TT := mem_TT (List.mem_of_getElem? (i := 746) (by decide +kernel)) (by decide +kernel)
theorem wd_747 : (Cond.methodLink "PlaneNet" 147 (⟨"PlaneNet$Net", "leftRound", "(II)I"⟩ : MethodName)) ∈ TT := mem_TT (List.mem_of_getElem? (i := 747) (by decide +kernel)) (by decide +kernel)
theorem wd_748 : (Cond.instanceMethod (⟨"PlaneNet$Net", "leftRound", "(II)I"⟩ : MethodName)) ∈ TT := mem_TT (List.mem_of_getElem? (i := 748) (by decide +kernel)) (by decide +kernel)
theorem wd_749 : (Cond.selects "PlaneNet$Net" (⟨"PlaneNet$Net", "leftRound", "(II)I"⟩ : MethodName) (⟨"PlaneNet$Net", "leftRound", "(II)I"⟩ : MethodName)) ∈ TT := mem_TT (List.mem_of_getElem? (i := 749) (by decide +kernel)) (by decide +kernel)
theorem wd_750 : (Cond.code (⟨"PlaneNet$Net", "leftRound", "(II)I"⟩ : MethodName) prog_2_method_26_code 6 (Option.some .int)) ∈ TT := mem_TT (List.mem_of_getElem? (i := 750) (by decide +kernel)) (by decide +kernel)
theorem wd_751 : (Cond.methodLink "PlaneNet$Net" 141 (⟨"PlaneNet$Net", "lowestFrom", "(I)I"⟩ : MethodName)) ∈ TT := mem_TT (List.mem_of_getElem? (i := 751) (by decide +kernel)) (by decide +kernel)
theorem wd_753 : (Cond.instanceMethod (⟨"PlaneNet$Net", "lowestFrom", "(I)I"⟩ : MethodName)) ∈ TT := mem_TT (List.mem_of_getElem? (i := 753) (by decide +kernel)) (by decide +kernel)
theorem wd_754 : (Cond.code (⟨"PlaneNet$Net", "lowestFrom", "(I)I"⟩ : MethodName) prog_2_method_27_code 6 (Option.some .int)) ∈ TT := mem_TT (List.mem_of_getElem? (i := 754) (by decide +kernel)) (by decide +kernel)
theorem wd_761 : (Cond.code (⟨"PlaneNet", "corner", "(I)I"⟩ : MethodName) prog_1_method_8_code 2 (Option.some .int)) ∈ TT := mem_TT (List.mem_of_getElem? (i := 761) (by decide +kernel)) (by decide +kernel)
theorem wd_763 : (Cond.methodLink "PlaneNet" 155 (⟨"PlaneNet$Outline", "at", "(I)I"⟩ : MethodName)) ∈ TT := mem_TT (List.mem_of_getElem? (i := 763) (by decide +kernel)) (by decide +kernel)
theorem wd_764 : (Cond.instanceMethod (⟨"PlaneNet$Outline", "at", "(I)I"⟩ : MethodName)) ∈ TT := mem_TT (List.mem_of_getElem? (i := 764) (by decide +kernel)) (by decide +kernel)
theorem wd_765 : (Cond.selects "PlaneNet$Outline" (⟨"PlaneNet$Outline", "at", "(I)I"⟩ : MethodName) (⟨"PlaneNet$Outline", "at", "(I)I"⟩ : MethodName)) ∈ TT := mem_TT (List.mem_of_getElem? (i := 765) (by decide +kernel)) (by decide +kernel)
theorem wd_766 : (Cond.code (⟨"PlaneNet$Outline", "at", "(I)I"⟩ : MethodName) prog_3_method_5_code 2 (Option.some .int)) ∈ TT := mem_TT (List.mem_of_getElem? (i := 766) (by decide +kernel)) (by decide +kernel)
theorem wd_767 : (Cond.methodLink "PlaneNet$Outline" 47 (⟨"PlaneNet$Row", "get", "(I)I"⟩ : MethodName)) ∈ TT := mem_TT (List.mem_of_getElem? (i := 767) (by decide +kernel)) (by decide +kernel)
theorem wd_774 : (Cond.code (⟨"PlaneNet", "locate", "(II)I"⟩ : MethodName) prog_1_method_9_code 4 (Option.some .int)) ∈ TT := mem_TT (List.mem_of_getElem? (i := 774) (by decide +kernel)) (by decide +kernel)
theorem wd_775 : (Cond.methodLink "PlaneNet" 161 (⟨"PlaneNet", "locateOnLine", "(II)I"⟩ : MethodName)) ∈ TT := mem_TT (List.mem_of_getElem? (i := 775) (by decide +kernel)) (by decide +kernel)
theorem wd_777 : (Cond.instanceMethod (⟨"PlaneNet", "locateOnLine", "(II)I"⟩ : MethodName)) ∈ TT := mem_TT (List.mem_of_getElem? (i := 777) (by decide +kernel)) (by decide +kernel)
theorem wd_778 : (Cond.code (⟨"PlaneNet", "locateOnLine", "(II)I"⟩ : MethodName) prog_1_method_24_code 5 (Option.some .int)) ∈ TT := mem_TT (List.mem_of_getElem? (i := 778) (by decide +kernel)) (by decide +kernel)
theorem wd_779 : (Cond.methodLink "PlaneNet" 225 (⟨"PlaneNet", "foundBetween", "(II)I"⟩ : MethodName)) ∈ TT := mem_TT (List.mem_of_getElem? (i := 779) (by decide +kernel)) (by decide +kernel)
theorem wd_781 : (Cond.instanceMethod (⟨"PlaneNet", "foundBetween", "(II)I"⟩ : MethodName)) ∈ TT := mem_TT (List.mem_of_getElem? (i := 781) (by decide +kernel)) (by decide +kernel)
theorem wd_782 : (Cond.code (⟨"PlaneNet", "foundBetween", "(II)I"⟩ : MethodName) prog_1_method_26_code 3 (Option.some .int)) ∈ TT := mem_TT (List.mem_of_getElem? (i := 782) (by decide +kernel)) (by decide +kernel)
theorem wd_783 : (Cond.methodLink "PlaneNet" 164 (⟨"PlaneNet", "locateInNet", "(III)I"⟩ : MethodName)) ∈ TT := mem_TT (List.mem_of_getElem? (i := 783) (by decide +kernel)) (by decide +kernel)
theorem wd_785 : (Cond.instanceMethod (⟨"PlaneNet", "locateInNet", "(III)I"⟩ : MethodName)) ∈ TT := mem_TT (List.mem_of_getElem? (i := 785) (by decide +kernel)) (by decide +kernel)
theorem wd_786 : (Cond.code (⟨"PlaneNet", "locateInNet", "(III)I"⟩ : MethodName) prog_1_method_25_code 7 (Option.some .int)) ∈ TT := mem_TT (List.mem_of_getElem? (i := 786) (by decide +kernel)) (by decide +kernel)
theorem wd_787 : (Cond.methodLink "PlaneNet" 228 (⟨"PlaneNet$Net", "holder", "(III)I"⟩ : MethodName)) ∈ TT := mem_TT (List.mem_of_getElem? (i := 787) (by decide +kernel)) (by decide +kernel)
theorem wd_788 : (Cond.methodLink "PlaneNet" 231 (⟨"PlaneNet$Net", "isOuter", "(I)Z"⟩ : MethodName)) ∈ TT := mem_TT (List.mem_of_getElem? (i := 788) (by decide +kernel)) (by decide +kernel)
theorem wd_789 : (Cond.methodLink "PlaneNet" 235 (⟨"PlaneNet$Net", "endOf", "(I)I"⟩ : MethodName)) ∈ TT := mem_TT (List.mem_of_getElem? (i := 789) (by decide +kernel)) (by decide +kernel)
theorem wd_790 : (Cond.methodLink "PlaneNet" 238 (⟨"PlaneNet$Net", "lowestFirst", "(I)I"⟩ : MethodName)) ∈ TT := mem_TT (List.mem_of_getElem? (i := 790) (by decide +kernel)) (by decide +kernel)
theorem wd_797 : (Cond.code (⟨"PlaneNet", "nearest", "(II)I"⟩ : MethodName) prog_1_method_11_code 3 (Option.some .int)) ∈ TT := mem_TT (List.mem_of_getElem? (i := 797) (by decide +kernel)) (by decide +kernel)
theorem wd_805 : (Cond.code (⟨"PlaneNet", "closest", "(I)J"⟩ : MethodName) prog_1_method_12_code 2 (Option.some .long)) ∈ TT := mem_TT (List.mem_of_getElem? (i := 805) (by decide +kernel)) (by decide +kernel)
theorem wd_814 : (Cond.code (⟨"PlaneNet", "point", "(II)I"⟩ : MethodName) prog_1_method_13_code 3 (Option.some .int)) ∈ TT := mem_TT (List.mem_of_getElem? (i := 814) (by decide +kernel)) (by decide +kernel)
theorem wd_820 : (Cond.code (⟨"PlaneNetModel", "<init>", "(I)V"⟩ : MethodName) prog_9_method_1_code 2 (Option.none : Option ClassFile.FieldType)) ∈ TT := mem_TT (List.mem_of_getElem? (i := 820) (by decide +kernel)) (by decide +kernel)
theorem wd_821 : (Cond.methodLink "PlaneNetModel" 1 (⟨"java/lang/Object", "<init>", "()V"⟩ : MethodName)) ∈ TT := mem_TT (List.mem_of_getElem? (i := 821) (by decide +kernel)) (by decide +kernel)
theorem wd_822 : (Cond.fieldLink "PlaneNetModel" 47 "PlaneNetModel" "thrown" "I") ∈ TT := mem_TT (List.mem_of_getElem? (i := 822) (by decide +kernel)) (by decide +kernel)
theorem wd_823 : (Cond.fieldLink "PlaneNetModel" 43 "PlaneNetModel" "most" "I") ∈ TT := mem_TT (List.mem_of_getElem? (i := 823) (by decide +kernel)) (by decide +kernel)
theorem wd_824 : (Cond.fieldLink "PlaneNetModel" 98 "PlaneNetModel" "n" "I") ∈ TT := mem_TT (List.mem_of_getElem? (i := 824) (by decide +kernel)) (by decide +kernel)
theorem wd_825 : (Cond.fieldLink "PlaneNetModel" 7 "PlaneNetModel" "xs" "[I") ∈ TT := mem_TT (List.mem_of_getElem? (i := 825) (by decide +kernel)) (by decide +kernel)
theorem wd_826 : (Cond.fieldLink "PlaneNetModel" 13 "PlaneNetModel" "ys" "[I") ∈ TT := mem_TT (List.mem_of_getElem? (i := 826) (by decide +kernel)) (by decide +kernel)
theorem wd_827 : (Cond.fieldLink "PlaneNetModel" 101 "PlaneNetModel" "known" "Z") ∈ TT := mem_TT (List.mem_of_getElem? (i := 827) (by decide +kernel)) (by decide +kernel)
theorem wd_828 : (Cond.fieldLink "PlaneNetModel" 153 "PlaneNetModel" "triangles" "I") ∈ TT := mem_TT (List.mem_of_getElem? (i := 828) (by decide +kernel)) (by decide +kernel)
theorem wd_829 : (Cond.fieldLink "PlaneNetModel" 16 "PlaneNetModel" "t0" "[I") ∈ TT := mem_TT (List.mem_of_getElem? (i := 829) (by decide +kernel)) (by decide +kernel)
theorem wd_830 : (Cond.fieldLink "PlaneNetModel" 19 "PlaneNetModel" "t1" "[I") ∈ TT := mem_TT (List.mem_of_getElem? (i := 830) (by decide +kernel)) (by decide +kernel)
theorem wd_831 : (Cond.fieldLink "PlaneNetModel" 22 "PlaneNetModel" "t2" "[I") ∈ TT := mem_TT (List.mem_of_getElem? (i := 831) (by decide +kernel)) (by decide +kernel)
theorem wd_832 : (Cond.fieldLink "PlaneNetModel" 131 "PlaneNetModel" "corners" "I") ∈ TT := mem_TT (List.mem_of_getElem? (i := 832) (by decide +kernel)) (by decide +kernel)
theorem wd_833 : (Cond.fieldLink "PlaneNetModel" 25 "PlaneNetModel" "corner" "[I") ∈ TT := mem_TT (List.mem_of_getElem? (i := 833) (by decide +kernel)) (by decide +kernel)
theorem wd_834 : (Cond.fieldLink "PlaneNetModel" 150 "PlaneNetModel" "sides" "I") ∈ TT := mem_TT (List.mem_of_getElem? (i := 834) (by decide +kernel)) (by decide +kernel)
theorem wd_835 : (Cond.fieldLink "PlaneNetModel" 173 "PlaneNetModel" "looked" "I") ∈ TT := mem_TT (List.mem_of_getElem? (i := 835) (by decide +kernel)) (by decide +kernel)
theorem wd_836 : (Cond.fieldLink "PlaneNetModel" 28 "PlaneNetModel" "from" "[I") ∈ TT := mem_TT (List.mem_of_getElem? (i := 836) (by decide +kernel)) (by decide +kernel)
theorem wd_837 : (Cond.fieldLink "PlaneNetModel" 31 "PlaneNetModel" "to" "[I") ∈ TT := mem_TT (List.mem_of_getElem? (i := 837) (by decide +kernel)) (by decide +kernel)
theorem wd_838 : (Cond.fieldLink "PlaneNetModel" 140 "PlaneNetModel" "celled" "I") ∈ TT := mem_TT (List.mem_of_getElem? (i := 838) (by decide +kernel)) (by decide +kernel)
theorem wd_839 : (Cond.fieldLink "PlaneNetModel" 34 "PlaneNetModel" "cell" "[I") ∈ TT := mem_TT (List.mem_of_getElem? (i := 839) (by decide +kernel)) (by decide +kernel)
theorem wd_840 : (Cond.fieldLink "PlaneNetModel" 70 "PlaneNetModel" "d0" "J") ∈ TT := mem_TT (List.mem_of_getElem? (i := 840) (by decide +kernel)) (by decide +kernel)
theorem wd_841 : (Cond.fieldLink "PlaneNetModel" 74 "PlaneNetModel" "d1" "J") ∈ TT := mem_TT (List.mem_of_getElem? (i := 841) (by decide +kernel)) (by decide +kernel)
theorem wd_842 : (Cond.fieldLink "PlaneNetModel" 77 "PlaneNetModel" "d2" "J") ∈ TT := mem_TT (List.mem_of_getElem? (i := 842) (by decide +kernel)) (by decide +kernel)
theorem wd_843 : (Cond.fieldLink "PlaneNetModel" 80 "PlaneNetModel" "d3" "J") ∈ TT := mem_TT (List.mem_of_getElem? (i := 843) (by decide +kernel)) (by decide +kernel)
theorem wd_844 : (Cond.fieldLink "PlaneNetModel" 83 "PlaneNetModel" "d4" "J") ∈ TT := mem_TT (List.mem_of_getElem? (i := 844) (by decide +kernel)) (by decide +kernel)
theorem wd_845 : (Cond.fieldLink "PlaneNetModel" 196 "PlaneNetModel" "near" "I") ∈ TT := mem_TT (List.mem_of_getElem? (i := 845) (by decide +kernel)) (by decide +kernel)
theorem wd_846 : (Cond.fieldLink "PlaneNetModel" 37 "PlaneNetModel" "row" "[I") ∈ TT := mem_TT (List.mem_of_getElem? (i := 846) (by decide +kernel)) (by decide +kernel)
theorem wd_847 : (Cond.fieldLink "PlaneNetModel" 40 "PlaneNetModel" "located" "[I") ∈ TT := mem_TT (List.mem_of_getElem? (i := 847) (by decide +kernel)) (by decide +kernel)
theorem wd_904 : (Cond.code (⟨"PlaneNetModel", "thrown", "()I"⟩ : MethodName) prog_9_method_2_code 1 (Option.some .int)) ∈ TT := mem_TT (List.mem_of_getElem? (i := 904) (by decide +kernel)) (by decide +kernel)
theorem wd_908 : (Cond.code (⟨"PlaneNetModel", "add", "(II)I"⟩ : MethodName) prog_9_method_18_code 3 (Option.some .int)) ∈ TT := mem_TT (List.mem_of_getElem? (i := 908) (by decide +kernel)) (by decide +kernel)
theorem wd_909 : (Cond.methodLink "PlaneNetModel" 105 (⟨"PlaneNetModel", "isFar", "(II)Z"⟩ : MethodName)) ∈ TT := mem_TT (List.mem_of_getElem? (i := 909) (by decide +kernel)) (by decide +kernel)
theorem wd_910 : (Cond.static (⟨"PlaneNetModel", "isFar", "(II)Z"⟩ : MethodName)) ∈ TT := mem_TT (List.mem_of_getElem? (i := 910) (by decide +kernel)) (by decide +kernel)
theorem wd_911 : (Cond.code (⟨"PlaneNetModel", "isFar", "(II)Z"⟩ : MethodName) prog_9_method_5_code 2 (Option.some .boolean)) ∈ TT := mem_TT (List.mem_of_getElem? (i := 911) (by decide +kernel)) (by decide +kernel)
theorem wd_912 : (Cond.constant "PlaneNetModel" 50 (-1000000000)) ∈ TT := mem_TT (List.mem_of_getElem? (i := 912) (by decide +kernel)) (by decide +kernel)
theorem wd_913 : (Cond.constant "PlaneNetModel" 51 1000000000) ∈ TT := mem_TT (List.mem_of_getElem? (i := 913) (by decide +kernel)) (by decide +kernel)
theorem wd_914 : (Cond.methodLink "PlaneNetModel" 52 (⟨"PlaneNetModel", "within", "(III)Z"⟩ : MethodName)) ∈ TT := mem_TT (List.mem_of_getElem? (i := 914) (by decide +kernel)) (by decide +kernel)
theorem wd_915 : (Cond.static (⟨"PlaneNetModel", "within", "(III)Z"⟩ : MethodName)) ∈ TT := mem_TT (List.mem_of_getElem? (i := 915) (by decide +kernel)) (by decide +kernel)
theorem wd_916 : (Cond.code (⟨"PlaneNetModel", "within", "(III)Z"⟩ : MethodName) prog_9_method_4_code 3 (Option.some .boolean)) ∈ TT := mem_TT (List.mem_of_getElem? (i := 916) (by decide +kernel)) (by decide +kernel)
theorem wd_917 : (Cond.methodLink "PlaneNetModel" 109 (⟨"PlaneNetModel", "fail", "(I)I"⟩ : MethodName)) ∈ TT := mem_TT (List.mem_of_getElem? (i := 917) (by decide +kernel)) (by decide +kernel)
theorem wd_919 : (Cond.instanceMethod (⟨"PlaneNetModel", "fail", "(I)I"⟩ : MethodName)) ∈ TT := mem_TT (List.mem_of_getElem? (i := 919) (by decide +kernel)) (by decide +kernel)
theorem wd_920 : (Cond.code (⟨"PlaneNetModel", "fail", "(I)I"⟩ : MethodName) prog_9_method_3_code 2 (Option.some .int)) ∈ TT := mem_TT (List.mem_of_getElem? (i := 920) (by decide +kernel)) (by decide +kernel)
theorem wd_921 : (Cond.methodLink "PlaneNetModel" 113 (⟨"PlaneNetModel", "findPoint", "(II)I"⟩ : MethodName)) ∈ TT := mem_TT (List.mem_of_getElem? (i := 921) (by decide +kernel)) (by decide +kernel)
theorem wd_923 : (Cond.instanceMethod (⟨"PlaneNetModel", "findPoint", "(II)I"⟩ : MethodName)) ∈ TT := mem_TT (List.mem_of_getElem? (i := 923) (by decide +kernel)) (by decide +kernel)
theorem wd_924 : (Cond.code (⟨"PlaneNetModel", "findPoint", "(II)I"⟩ : MethodName) prog_9_method_16_code 5 (Option.some .int)) ∈ TT := mem_TT (List.mem_of_getElem? (i := 924) (by decide +kernel)) (by decide +kernel)
theorem wd_925 : (Cond.methodLink "PlaneNetModel" 117 (⟨"PlaneNetModel", "forget", "()V"⟩ : MethodName)) ∈ TT := mem_TT (List.mem_of_getElem? (i := 925) (by decide +kernel)) (by decide +kernel)
theorem wd_927 : (Cond.instanceMethod (⟨"PlaneNetModel", "forget", "()V"⟩ : MethodName)) ∈ TT := mem_TT (List.mem_of_getElem? (i := 927) (by decide +kernel)) (by decide +kernel)
theorem wd_928 : (Cond.code (⟨"PlaneNetModel", "forget", "()V"⟩ : MethodName) prog_9_method_17_code 2 (Option.none : Option ClassFile.FieldType)) ∈ TT := mem_TT (List.mem_of_getElem? (i := 928) (by decide +kernel)) (by decide +kernel)
theorem wd_932 : (Cond.code (⟨"PlaneNetModel", "clear", "()I"⟩ : MethodName) prog_9_method_19_code 2 (Option.some .int)) ∈ TT := mem_TT (List.mem_of_getElem? (i := 932) (by decide +kernel)) (by decide +kernel)
theorem wd_936 : (Cond.code (⟨"PlaneNetModel", "find", "(II)I"⟩ : MethodName) prog_9_method_20_code 3 (Option.some .int)) ∈ TT := mem_TT (List.mem_of_getElem? (i := 936) (by decide +kernel)) (by decide +kernel)
theorem wd_940 : (Cond.code (⟨"PlaneNetModel", "triangle", "(II)I"⟩ : MethodName) prog_9_method_33_code 3 (Option.some .int)) ∈ TT := mem_TT (List.mem_of_getElem? (i := 940) (by decide +kernel)) (by decide +kernel)
theorem wd_941 : (Cond.methodLink "PlaneNetModel" 186 (⟨"PlaneNetModel", "know", "()V"⟩ : MethodName)) ∈ TT := mem_TT (List.mem_of_getElem? (i := 941) (by decide +kernel)) (by decide +kernel)
theorem wd_943 : (Cond.instanceMethod (⟨"PlaneNetModel", "know", "()V"⟩ : MethodName)) ∈ TT := mem_TT (List.mem_of_getElem? (i := 943) (by decide +kernel)) (by decide +kernel)
theorem wd_944 : (Cond.code (⟨"PlaneNetModel", "know", "()V"⟩ : MethodName) prog_9_method_32_code 4 (Option.none : Option ClassFile.FieldType)) ∈ TT := mem_TT (List.mem_of_getElem? (i := 944) (by decide +kernel)) (by decide +kernel)
theorem wd_945 : (Cond.methodLink "PlaneNetModel" 176 (⟨"PlaneNetModel", "findCorners", "()V"⟩ : MethodName)) ∈ TT := mem_TT (List.mem_of_getElem? (i := 945) (by decide +kernel)) (by decide +kernel)
theorem wd_947 : (Cond.instanceMethod (⟨"PlaneNetModel", "findCorners", "()V"⟩ : MethodName)) ∈ TT := mem_TT (List.mem_of_getElem? (i := 947) (by decide +kernel)) (by decide +kernel)
theorem wd_948 : (Cond.code (⟨"PlaneNetModel", "findCorners", "()V"⟩ : MethodName) prog_9_method_23_code 4 (Option.none : Option ClassFile.FieldType)) ∈ TT := mem_TT (List.mem_of_getElem? (i := 948) (by decide +kernel)) (by decide +kernel)
theorem wd_949 : (Cond.methodLink "PlaneNetModel" 134 (⟨"PlaneNetModel", "least", "()I"⟩ : MethodName)) ∈ TT := mem_TT (List.mem_of_getElem? (i := 949) (by decide +kernel)) (by decide +kernel)
theorem wd_951 : (Cond.instanceMethod (⟨"PlaneNetModel", "least", "()I"⟩ : MethodName)) ∈ TT := mem_TT (List.mem_of_getElem? (i := 951) (by decide +kernel)) (by decide +kernel)
theorem wd_952 : (Cond.code (⟨"PlaneNetModel", "least", "()I"⟩ : MethodName) prog_9_method_21_code 3 (Option.some .int)) ∈ TT := mem_TT (List.mem_of_getElem? (i := 952) (by decide +kernel)) (by decide +kernel)
theorem wd_953 : (Cond.methodLink "PlaneNetModel" 120 (⟨"PlaneNetModel", "isLess", "(II)Z"⟩ : MethodName)) ∈ TT := mem_TT (List.mem_of_getElem? (i := 953) (by decide +kernel)) (by decide +kernel)
theorem wd_955 : (Cond.instanceMethod (⟨"PlaneNetModel", "isLess", "(II)Z"⟩ : MethodName)) ∈ TT := mem_TT (List.mem_of_getElem? (i := 955) (by decide +kernel)) (by decide +kernel)
theorem wd_956 : (Cond.code (⟨"PlaneNetModel", "isLess", "(II)Z"⟩ : MethodName) prog_9_method_14_code 3 (Option.some .boolean)) ∈ TT := mem_TT (List.mem_of_getElem? (i := 956) (by decide +kernel)) (by decide +kernel)
theorem wd_957 : (Cond.methodLink "PlaneNetModel" 137 (⟨"PlaneNetModel", "cornerBehind", "(I)I"⟩ : MethodName)) ∈ TT := mem_TT (List.mem_of_getElem? (i := 957) (by decide +kernel)) (by decide +kernel)
theorem wd_959 : (Cond.instanceMethod (⟨"PlaneNetModel", "cornerBehind", "(I)I"⟩ : MethodName)) ∈ TT := mem_TT (List.mem_of_getElem? (i := 959) (by decide +kernel)) (by decide +kernel)
theorem wd_960 : (Cond.code (⟨"PlaneNetModel", "cornerBehind", "(I)I"⟩ : MethodName) prog_9_method_22_code 5 (Option.some .int)) ∈ TT := mem_TT (List.mem_of_getElem? (i := 960) (by decide +kernel)) (by decide +kernel)
theorem wd_961 : (Cond.methodLink "PlaneNetModel" 123 (⟨"PlaneNetModel", "sideOf", "(III)I"⟩ : MethodName)) ∈ TT := mem_TT (List.mem_of_getElem? (i := 961) (by decide +kernel)) (by decide +kernel)
theorem wd_963 : (Cond.instanceMethod (⟨"PlaneNetModel", "sideOf", "(III)I"⟩ : MethodName)) ∈ TT := mem_TT (List.mem_of_getElem? (i := 963) (by decide +kernel)) (by decide +kernel)
theorem wd_964 : (Cond.code (⟨"PlaneNetModel", "sideOf", "(III)I"⟩ : MethodName) prog_9_method_9_code 4 (Option.some .int)) ∈ TT := mem_TT (List.mem_of_getElem? (i := 964) (by decide +kernel)) (by decide +kernel)
theorem wd_965 : (Cond.methodLink "PlaneNetModel" 64 (⟨"PlaneNetModel", "side", "(IIII)I"⟩ : MethodName)) ∈ TT := mem_TT (List.mem_of_getElem? (i := 965) (by decide +kernel)) (by decide +kernel)
theorem wd_967 : (Cond.instanceMethod (⟨"PlaneNetModel", "side", "(IIII)I"⟩ : MethodName)) ∈ TT := mem_TT (List.mem_of_getElem? (i := 967) (by decide +kernel)) (by decide +kernel)
theorem wd_968 : (Cond.code (⟨"PlaneNetModel", "side", "(IIII)I"⟩ : MethodName) prog_9_method_8_code 5 (Option.some .int)) ∈ TT := mem_TT (List.mem_of_getElem? (i := 968) (by decide +kernel)) (by decide +kernel)
theorem wd_969 : (Cond.methodLink "PlaneNetModel" 56 (⟨"PlaneNetModel", "cross", "(JJJJ)J"⟩ : MethodName)) ∈ TT := mem_TT (List.mem_of_getElem? (i := 969) (by decide +kernel)) (by decide +kernel)
theorem wd_970 : (Cond.static (⟨"PlaneNetModel", "cross", "(JJJJ)J"⟩ : MethodName)) ∈ TT := mem_TT (List.mem_of_getElem? (i := 970) (by decide +kernel)) (by decide +kernel)
theorem wd_971 : (Cond.code (⟨"PlaneNetModel", "cross", "(JJJJ)J"⟩ : MethodName) prog_9_method_7_code 8 (Option.some .long)) ∈ TT := mem_TT (List.mem_of_getElem? (i := 971) (by decide +kernel)) (by decide +kernel)
theorem wd_972 : (Cond.methodLink "PlaneNetModel" 60 (⟨"PlaneNetModel", "sign", "(J)I"⟩ : MethodName)) ∈ TT := mem_TT (List.mem_of_getElem? (i := 972) (by decide +kernel)) (by decide +kernel)
theorem wd_973 : (Cond.static (⟨"PlaneNetModel", "sign", "(J)I"⟩ : MethodName)) ∈ TT := mem_TT (List.mem_of_getElem? (i := 973) (by decide +kernel)) (by decide +kernel)
theorem wd_974 : (Cond.code (⟨"PlaneNetModel", "sign", "(J)I"⟩ : MethodName) prog_9_method_6_code 2 (Option.some .int)) ∈ TT := mem_TT (List.mem_of_getElem? (i := 974) (by decide +kernel)) (by decide +kernel)
theorem wd_975 : (Cond.methodLink "PlaneNetModel" 127 (⟨"PlaneNetModel", "apart", "(III)J"⟩ : MethodName)) ∈ TT := mem_TT (List.mem_of_getElem? (i := 975) (by decide +kernel)) (by decide +kernel)
theorem wd_977 : (Cond.instanceMethod (⟨"PlaneNetModel", "apart", "(III)J"⟩ : MethodName)) ∈ TT := mem_TT (List.mem_of_getElem? (i := 977) (by decide +kernel)) (by decide +kernel)
theorem wd_978 : (Cond.code (⟨"PlaneNetModel", "apart", "(III)J"⟩ : MethodName) prog_9_method_15_code 8 (Option.some .long)) ∈ TT := mem_TT (List.mem_of_getElem? (i := 978) (by decide +kernel)) (by decide +kernel)
theorem wd_979 : (Cond.methodLink "PlaneNetModel" 179 (⟨"PlaneNetModel", "look", "(II)V"⟩ : MethodName)) ∈ TT := mem_TT (List.mem_of_getElem? (i := 979) (by decide +kernel)) (by decide +kernel)
theorem wd_981 : (Cond.instanceMethod (⟨"PlaneNetModel", "look", "(II)V"⟩ : MethodName)) ∈ TT := mem_TT (List.mem_of_getElem? (i := 981) (by decide +kernel)) (by decide +kernel)
theorem wd_982 : (Cond.code (⟨"PlaneNetModel", "look", "(II)V"⟩ : MethodName) prog_9_method_28_code 5 (Option.none : Option ClassFile.FieldType)) ∈ TT := mem_TT (List.mem_of_getElem? (i := 982) (by decide +kernel)) (by decide +kernel)
theorem wd_983 : (Cond.methodLink "PlaneNetModel" 156 (⟨"PlaneNetModel", "isSide", "(II)Z"⟩ : MethodName)) ∈ TT := mem_TT (List.mem_of_getElem? (i := 983) (by decide +kernel)) (by decide +kernel)
theorem wd_985 : (Cond.instanceMethod (⟨"PlaneNetModel", "isSide", "(II)Z"⟩ : MethodName)) ∈ TT := mem_TT (List.mem_of_getElem? (i := 985) (by decide +kernel)) (by decide +kernel)
theorem wd_986 : (Cond.code (⟨"PlaneNetModel", "isSide", "(II)Z"⟩ : MethodName) prog_9_method_26_code 5 (Option.some .boolean)) ∈ TT := mem_TT (List.mem_of_getElem? (i := 986) (by decide +kernel)) (by decide +kernel)
theorem wd_987 : (Cond.methodLink "PlaneNetModel" 143 (⟨"PlaneNetModel", "inCircle", "(IIII)I"⟩ : MethodName)) ∈ TT := mem_TT (List.mem_of_getElem? (i := 987) (by decide +kernel)) (by decide +kernel)
theorem wd_989 : (Cond.instanceMethod (⟨"PlaneNetModel", "inCircle", "(IIII)I"⟩ : MethodName)) ∈ TT := mem_TT (List.mem_of_getElem? (i := 989) (by decide +kernel)) (by decide +kernel)
theorem wd_990 : (Cond.code (⟨"PlaneNetModel", "inCircle", "(IIII)I"⟩ : MethodName) prog_9_method_13_code 5 (Option.some .int)) ∈ TT := mem_TT (List.mem_of_getElem? (i := 990) (by decide +kernel)) (by decide +kernel)
theorem wd_991 : (Cond.methodLink "PlaneNetModel" 90 (⟨"PlaneNetModel", "part", "(IIII)V"⟩ : MethodName)) ∈ TT := mem_TT (List.mem_of_getElem? (i := 991) (by decide +kernel)) (by decide +kernel)
theorem wd_993 : (Cond.instanceMethod (⟨"PlaneNetModel", "part", "(IIII)V"⟩ : MethodName)) ∈ TT := mem_TT (List.mem_of_getElem? (i := 993) (by decide +kernel)) (by decide +kernel)
theorem wd_994 : (Cond.code (⟨"PlaneNetModel", "part", "(IIII)V"⟩ : MethodName) prog_9_method_12_code 9 (Option.none : Option ClassFile.FieldType)) ∈ TT := mem_TT (List.mem_of_getElem? (i := 994) (by decide +kernel)) (by decide +kernel)
theorem wd_995 : (Cond.methodLink "PlaneNetModel" 86 (⟨"PlaneNetModel", "product", "(JJ)V"⟩ : MethodName)) ∈ TT := mem_TT (List.mem_of_getElem? (i := 995) (by decide +kernel)) (by decide +kernel)
theorem wd_997 : (Cond.instanceMethod (⟨"PlaneNetModel", "product", "(JJ)V"⟩ : MethodName)) ∈ TT := mem_TT (List.mem_of_getElem? (i := 997) (by decide +kernel)) (by decide +kernel)
theorem wd_998 : (Cond.code (⟨"PlaneNetModel", "product", "(JJ)V"⟩ : MethodName) prog_9_method_10_code 17 (Option.none : Option ClassFile.FieldType)) ∈ TT := mem_TT (List.mem_of_getElem? (i := 998) (by decide +kernel)) (by decide +kernel)
theorem wd_999 : (Cond.constantLong "PlaneNetModel" 68 2097151) ∈ TT := mem_TT (List.mem_of_getElem? (i := 999) (by decide +kernel)) (by decide +kernel)
theorem wd_1000 : (Cond.methodLink "PlaneNetModel" 94 (⟨"PlaneNetModel", "signOfSum", "()I"⟩ : MethodName)) ∈ TT := mem_TT (List.mem_of_getElem? (i := 1000) (by decide +kernel)) (by decide +kernel)
theorem wd_1002 : (Cond.instanceMethod (⟨"PlaneNetModel", "signOfSum", "()I"⟩ : MethodName)) ∈ TT := mem_TT (List.mem_of_getElem? (i := 1002) (by decide +kernel)) (by decide +kernel)
theorem wd_1003 : (Cond.code (⟨"PlaneNetModel", "signOfSum", "()I"⟩ : MethodName) prog_9_method_11_code 1 (Option.some .int)) ∈ TT := mem_TT (List.mem_of_getElem? (i := 1003) (by decide +kernel)) (by decide +kernel)
theorem wd_1004 : (Cond.methodLink "PlaneNetModel" 159 (⟨"PlaneNetModel", "findCell", "(III)V"⟩ : MethodName)) ∈ TT := mem_TT (List.mem_of_getElem? (i := 1004) (by decide +kernel)) (by decide +kernel)
theorem wd_1006 : (Cond.instanceMethod (⟨"PlaneNetModel", "findCell", "(III)V"⟩ : MethodName)) ∈ TT := mem_TT (List.mem_of_getElem? (i := 1006) (by decide +kernel)) (by decide +kernel)
theorem wd_1007 : (Cond.code (⟨"PlaneNetModel", "findCell", "(III)V"⟩ : MethodName) prog_9_method_25_code 8 (Option.none : Option ClassFile.FieldType)) ∈ TT := mem_TT (List.mem_of_getElem? (i := 1007) (by decide +kernel)) (by decide +kernel)
theorem wd_1008 : (Cond.methodLink "PlaneNetModel" 146 (⟨"PlaneNetModel", "isCelled", "(I)Z"⟩ : MethodName)) ∈ TT := mem_TT (List.mem_of_getElem? (i := 1008) (by decide +kernel)) (by decide +kernel)
theorem wd_1010 : (Cond.instanceMethod (⟨"PlaneNetModel", "isCelled", "(I)Z"⟩ : MethodName)) ∈ TT := mem_TT (List.mem_of_getElem? (i := 1010) (by decide +kernel)) (by decide +kernel)
theorem wd_1011 : (Cond.code (⟨"PlaneNetModel", "isCelled", "(I)Z"⟩ : MethodName) prog_9_method_24_code 4 (Option.some .boolean)) ∈ TT := mem_TT (List.mem_of_getElem? (i := 1011) (by decide +kernel)) (by decide +kernel)
theorem wd_1012 : (Cond.methodLink "PlaneNetModel" 163 (⟨"PlaneNetModel", "tell", "(III)V"⟩ : MethodName)) ∈ TT := mem_TT (List.mem_of_getElem? (i := 1012) (by decide +kernel)) (by decide +kernel)
theorem wd_1014 : (Cond.instanceMethod (⟨"PlaneNetModel", "tell", "(III)V"⟩ : MethodName)) ∈ TT := mem_TT (List.mem_of_getElem? (i := 1014) (by decide +kernel)) (by decide +kernel)
theorem wd_1015 : (Cond.code (⟨"PlaneNetModel", "tell", "(III)V"⟩ : MethodName) prog_9_method_27_code 6 (Option.none : Option ClassFile.FieldType)) ∈ TT := mem_TT (List.mem_of_getElem? (i := 1015) (by decide +kernel)) (by decide +kernel)
theorem wd_1016 : (Cond.methodLink "PlaneNetModel" 183 (⟨"PlaneNetModel", "sort", "()V"⟩ : MethodName)) ∈ TT := mem_TT (List.mem_of_getElem? (i := 1016) (by decide +kernel)) (by decide +kernel)
theorem wd_1018 : (Cond.instanceMethod (⟨"PlaneNetModel", "sort", "()V"⟩ : MethodName)) ∈ TT := mem_TT (List.mem_of_getElem? (i := 1018) (by decide +kernel)) (by decide +kernel)
theorem wd_1019 : (Cond.code (⟨"PlaneNetModel", "sort", "()V"⟩ : MethodName) prog_9_method_31_code 3 (Option.none : Option ClassFile.FieldType)) ∈ TT := mem_TT (List.mem_of_getElem? (i := 1019) (by decide +kernel)) (by decide +kernel)
theorem wd_1020 : (Cond.methodLink "PlaneNetModel" 166 (⟨"PlaneNetModel", "isBefore", "(II)Z"⟩ : MethodName)) ∈ TT := mem_TT (List.mem_of_getElem? (i := 1020) (by decide +kernel)) (by decide +kernel)
theorem wd_1022 : (Cond.instanceMethod (⟨"PlaneNetModel", "isBefore", "(II)Z"⟩ : MethodName)) ∈ TT := mem_TT (List.mem_of_getElem? (i := 1022) (by decide +kernel)) (by decide +kernel)
theorem wd_1023 : (Cond.code (⟨"PlaneNetModel", "isBefore", "(II)Z"⟩ : MethodName) prog_9_method_29_code 3 (Option.some .boolean)) ∈ TT := mem_TT (List.mem_of_getElem? (i := 1023) (by decide +kernel)) (by decide +kernel)
theorem wd_1024 : (Cond.methodLink "PlaneNetModel" 169 (⟨"PlaneNetModel", "swap", "(I)V"⟩ : MethodName)) ∈ TT := mem_TT (List.mem_of_getElem? (i := 1024) (by decide +kernel)) (by decide +kernel)
theorem wd_1026 : (Cond.instanceMethod (⟨"PlaneNetModel", "swap", "(I)V"⟩ : MethodName)) ∈ TT := mem_TT (List.mem_of_getElem? (i := 1026) (by decide +kernel)) (by decide +kernel)
theorem wd_1027 : (Cond.code (⟨"PlaneNetModel", "swap", "(I)V"⟩ : MethodName) prog_9_method_30_code 5 (Option.none : Option ClassFile.FieldType)) ∈ TT := mem_TT (List.mem_of_getElem? (i := 1027) (by decide +kernel)) (by decide +kernel)
theorem wd_1031 : (Cond.code (⟨"PlaneNetModel", "corner", "(I)I"⟩ : MethodName) prog_9_method_34_code 2 (Option.some .int)) ∈ TT := mem_TT (List.mem_of_getElem? (i := 1031) (by decide +kernel)) (by decide +kernel)
theorem wd_1035 : (Cond.code (⟨"PlaneNetModel", "neighbours", "(I)I"⟩ : MethodName) prog_9_method_40_code 2 (Option.some .int)) ∈ TT := mem_TT (List.mem_of_getElem? (i := 1035) (by decide +kernel)) (by decide +kernel)
theorem wd_1036 : (Cond.methodLink "PlaneNetModel" 205 (⟨"PlaneNetModel", "findNeighbours", "(I)V"⟩ : MethodName)) ∈ TT := mem_TT (List.mem_of_getElem? (i := 1036) (by decide +kernel)) (by decide +kernel)
theorem wd_1038 : (Cond.instanceMethod (⟨"PlaneNetModel", "findNeighbours", "(I)V"⟩ : MethodName)) ∈ TT := mem_TT (List.mem_of_getElem? (i := 1038) (by decide +kernel)) (by decide +kernel)
theorem wd_1039 : (Cond.code (⟨"PlaneNetModel", "findNeighbours", "(I)V"⟩ : MethodName) prog_9_method_39_code 5 (Option.none : Option ClassFile.FieldType)) ∈ TT := mem_TT (List.mem_of_getElem? (i := 1039) (by decide +kernel)) (by decide +kernel)
theorem wd_1040 : (Cond.methodLink "PlaneNetModel" 199 (⟨"PlaneNetModel", "areNeighbours", "(II)Z"⟩ : MethodName)) ∈ TT := mem_TT (List.mem_of_getElem? (i := 1040) (by decide +kernel)) (by decide +kernel)
theorem wd_1042 : (Cond.instanceMethod (⟨"PlaneNetModel", "areNeighbours", "(II)Z"⟩ : MethodName)) ∈ TT := mem_TT (List.mem_of_getElem? (i := 1042) (by decide +kernel)) (by decide +kernel)
theorem wd_1043 : (Cond.code (⟨"PlaneNetModel", "areNeighbours", "(II)Z"⟩ : MethodName) prog_9_method_37_code 5 (Option.some .boolean)) ∈ TT := mem_TT (List.mem_of_getElem? (i := 1043) (by decide +kernel)) (by decide +kernel)
theorem wd_1044 : (Cond.methodLink "PlaneNetModel" 189 (⟨"PlaneNetModel", "isOn", "(IIII)Z"⟩ : MethodName)) ∈ TT := mem_TT (List.mem_of_getElem? (i := 1044) (by decide +kernel)) (by decide +kernel)
theorem wd_1046 : (Cond.instanceMethod (⟨"PlaneNetModel", "isOn", "(IIII)Z"⟩ : MethodName)) ∈ TT := mem_TT (List.mem_of_getElem? (i := 1046) (by decide +kernel)) (by decide +kernel)
theorem wd_1047 : (Cond.code (⟨"PlaneNetModel", "isOn", "(IIII)Z"⟩ : MethodName) prog_9_method_36_code 7 (Option.some .boolean)) ∈ TT := mem_TT (List.mem_of_getElem? (i := 1047) (by decide +kernel)) (by decide +kernel)
theorem wd_1048 : (Cond.methodLink "PlaneNetModel" 193 (⟨"PlaneNetModel", "isIn", "(II)Z"⟩ : MethodName)) ∈ TT := mem_TT (List.mem_of_getElem? (i := 1048) (by decide +kernel)) (by decide +kernel)
theorem wd_1050 : (Cond.instanceMethod (⟨"PlaneNetModel", "isIn", "(II)Z"⟩ : MethodName)) ∈ TT := mem_TT (List.mem_of_getElem? (i := 1050) (by decide +kernel)) (by decide +kernel)
theorem wd_1051 : (Cond.code (⟨"PlaneNetModel", "isIn", "(II)Z"⟩ : MethodName) prog_9_method_35_code 3 (Option.some .boolean)) ∈ TT := mem_TT (List.mem_of_getElem? (i := 1051) (by decide +kernel)) (by decide +kernel)
theorem wd_1052 : (Cond.methodLink "PlaneNetModel" 202 (⟨"PlaneNetModel", "isSooner", "(IIII)Z"⟩ : MethodName)) ∈ TT := mem_TT (List.mem_of_getElem? (i := 1052) (by decide +kernel)) (by decide +kernel)
theorem wd_1054 : (Cond.instanceMethod (⟨"PlaneNetModel", "isSooner", "(IIII)Z"⟩ : MethodName)) ∈ TT := mem_TT (List.mem_of_getElem? (i := 1054) (by decide +kernel)) (by decide +kernel)
theorem wd_1055 : (Cond.code (⟨"PlaneNetModel", "isSooner", "(IIII)Z"⟩ : MethodName) prog_9_method_38_code 19 (Option.some .boolean)) ∈ TT := mem_TT (List.mem_of_getElem? (i := 1055) (by decide +kernel)) (by decide +kernel)
theorem wd_1059 : (Cond.code (⟨"PlaneNetModel", "neighbour", "(II)I"⟩ : MethodName) prog_9_method_41_code 3 (Option.some .int)) ∈ TT := mem_TT (List.mem_of_getElem? (i := 1059) (by decide +kernel)) (by decide +kernel)
theorem wd_1063 : (Cond.code (⟨"PlaneNetModel", "locate", "(II)I"⟩ : MethodName) prog_9_method_43_code 6 (Option.some .int)) ∈ TT := mem_TT (List.mem_of_getElem? (i := 1063) (by decide +kernel)) (by decide +kernel)
theorem wd_1064 : (Cond.methodLink "PlaneNetModel" 208 (⟨"PlaneNetModel", "found", "(IIII)I"⟩ : MethodName)) ∈ TT := mem_TT (List.mem_of_getElem? (i := 1064) (by decide +kernel)) (by decide +kernel)
theorem wd_1066 : (Cond.instanceMethod (⟨"PlaneNetModel", "found", "(IIII)I"⟩ : MethodName)) ∈ TT := mem_TT (List.mem_of_getElem? (i := 1066) (by decide +kernel)) (by decide +kernel)
theorem wd_1067 : (Cond.code (⟨"PlaneNetModel", "found", "(IIII)I"⟩ : MethodName) prog_9_method_42_code 5 (Option.some .int)) ∈ TT := mem_TT (List.mem_of_getElem? (i := 1067) (by decide +kernel)) (by decide +kernel)
theorem wd_1071 : (Cond.code (⟨"PlaneNetModel", "located", "(I)I"⟩ : MethodName) prog_9_method_44_code 2 (Option.some .int)) ∈ TT := mem_TT (List.mem_of_getElem? (i := 1071) (by decide +kernel)) (by decide +kernel)
theorem wd_1075 : (Cond.code (⟨"PlaneNetModel", "nearest", "(II)I"⟩ : MethodName) prog_9_method_45_code 5 (Option.some .int)) ∈ TT := mem_TT (List.mem_of_getElem? (i := 1075) (by decide +kernel)) (by decide +kernel)
theorem wd_1079 : (Cond.code (⟨"PlaneNetModel", "closest", "(I)J"⟩ : MethodName) prog_9_method_46_code 6 (Option.some .long)) ∈ TT := mem_TT (List.mem_of_getElem? (i := 1079) (by decide +kernel)) (by decide +kernel)
theorem wd_1083 : (Cond.code (⟨"PlaneNetModel", "point", "(II)I"⟩ : MethodName) prog_9_method_47_code 3 (Option.some .int)) ∈ TT := mem_TT (List.mem_of_getElem? (i := 1083) (by decide +kernel)) (by decide +kernel)
theorem wd_1087 : (Cond.code (⟨"PlaneNetModel", "count", "(I)I"⟩ : MethodName) prog_9_method_48_code 2 (Option.some .int)) ∈ TT := mem_TT (List.mem_of_getElem? (i := 1087) (by decide +kernel)) (by decide +kernel)
abbrev b_Rw_reach : ByteArray := prog_6_method_2_code
def y_Rw_reach : MethodName := ⟨R_Rw, "reach", "(I)V"⟩
def w_Rw_reach : List Cond := .code y_Rw_reach b_Rw_reach 2 none :: TT
def rm_Rw_reach : Room := { frames := 0, cells := 1, slots := 32, locals := 0 }
theorem gd_Rw_reach {h : Cond} : GoodIn (h :: TT) w_Rw_reach := gd_of wd_540
theorem dd_Rw_reach : y_Rw_reach.cls ≠ "java/lang/invoke/MethodHandle" ∧ y_Rw_reach.cls ≠ "java/lang/invoke/VarHandle" ∧ (parseMethodDescriptor y_Rw_reach.desc).map (fun d => d.parameters.length) = some 1 := ⟨by decide +kernel, by decide +kernel, by decide +kernel⟩
abbrev b_Rw_get : ByteArray := prog_6_method_3_code
def y_Rw_get : MethodName := ⟨R_Rw, "get", "(I)I"⟩
def w_Rw_get : List Cond := .code y_Rw_get b_Rw_get 4 (some .int) :: TT
def rm_Rw_get : Room := { frames := 0, cells := 0, slots := 0, locals := 0 }
theorem gd_Rw_get {h : Cond} : GoodIn (h :: TT) w_Rw_get := gd_of wd_342
theorem dd_Rw_get : y_Rw_get.cls ≠ "java/lang/invoke/MethodHandle" ∧ y_Rw_get.cls ≠ "java/lang/invoke/VarHandle" ∧ (parseMethodDescriptor y_Rw_get.desc).map (fun d => d.parameters.length) = some 1 := ⟨by decide +kernel, by decide +kernel, by decide +kernel⟩
abbrev b_Rw_put : ByteArray := prog_6_method_4_code
def y_Rw_put : MethodName := ⟨R_Rw, "put", "(II)V"⟩
def w_Rw_put : List Cond := .code y_Rw_put b_Rw_put 5 none :: TT
def rm_Rw_put : Room := { frames := 0, cells := 0, slots := 0, locals := 0 }
theorem gd_Rw_put {h : Cond} : GoodIn (h :: TT) w_Rw_put := gd_of wd_363
theorem dd_Rw_put : y_Rw_put.cls ≠ "java/lang/invoke/MethodHandle" ∧ y_Rw_put.cls ≠ "java/lang/invoke/VarHandle" ∧ (parseMethodDescriptor y_Rw_put.desc).map (fun d => d.parameters.length) = some 2 := ⟨by decide +kernel, by decide +kernel, by decide +kernel⟩
abbrev b_Pn_checkPlace : ByteArray := prog_1_method_15_code
def y_Pn_checkPlace : MethodName := ⟨R_Pn, "checkPlace", "(II)V"⟩
def w_Pn_checkPlace : List Cond := .code y_Pn_checkPlace b_Pn_checkPlace 2 none :: TT
def rm_Pn_checkPlace : Room := { frames := 0, cells := 0, slots := 0, locals := 0 }
theorem gd_Pn_checkPlace {h : Cond} : GoodIn (h :: TT) w_Pn_checkPlace := gd_of wd_426
theorem dd_Pn_checkPlace : y_Pn_checkPlace.cls ≠ "java/lang/invoke/MethodHandle" ∧ y_Pn_checkPlace.cls ≠ "java/lang/invoke/VarHandle" ∧ (parseMethodDescriptor y_Pn_checkPlace.desc).map (fun d => d.parameters.length) = some 2 := ⟨by decide +kernel, by decide +kernel, by decide +kernel⟩
abbrev b_Pt_gap : ByteArray := prog_4_method_11_code
def y_Pt_gap : MethodName := ⟨R_Pt, "gap", "(III)J"⟩
def w_Pt_gap : List Cond := .code y_Pt_gap b_Pt_gap 8 (some .long) :: TT
def rm_Pt_gap : Room := { frames := 1, cells := 0, slots := 0, locals := 23 }
theorem gd_Pt_gap {h : Cond} : GoodIn (h :: TT) w_Pt_gap := gd_of wd_504
theorem dd_Pt_gap : y_Pt_gap.cls ≠ "java/lang/invoke/MethodHandle" ∧ y_Pt_gap.cls ≠ "java/lang/invoke/VarHandle" ∧ (parseMethodDescriptor y_Pt_gap.desc).map (fun d => d.parameters.length) = some 3 := ⟨by decide +kernel, by decide +kernel, by decide +kernel⟩
abbrev b_Pt_nearestOf : ByteArray := prog_4_method_12_code
def y_Pt_nearestOf : MethodName := ⟨R_Pt, "nearestOf", "(III)I"⟩
def w_Pt_nearestOf : List Cond := .code y_Pt_nearestOf b_Pt_nearestOf 10 (some .int) :: TT
def rm_Pt_nearestOf : Room := { frames := 2, cells := 0, slots := 0, locals := 50 }
theorem gd_Pt_nearestOf {h : Cond} : GoodIn (h :: TT) w_Pt_nearestOf := gd_of wd_500
theorem dd_Pt_nearestOf : y_Pt_nearestOf.cls ≠ "java/lang/invoke/MethodHandle" ∧ y_Pt_nearestOf.cls ≠ "java/lang/invoke/VarHandle" ∧ (parseMethodDescriptor y_Pt_nearestOf.desc).map (fun d => d.parameters.length) = some 3 := ⟨by decide +kernel, by decide +kernel, by decide +kernel⟩
abbrev b_Pt_isAt : ByteArray := prog_4_method_7_code
def y_Pt_isAt : MethodName := ⟨R_Pt, "isAt", "(III)Z"⟩
def w_Pt_isAt : List Cond := .code y_Pt_isAt b_Pt_isAt 4 (some .boolean) :: TT
def rm_Pt_isAt : Room := { frames := 1, cells := 0, slots := 0, locals := 23 }
theorem gd_Pt_isAt {h : Cond} : GoodIn (h :: TT) w_Pt_isAt := gd_of wd_508
theorem dd_Pt_isAt : y_Pt_isAt.cls ≠ "java/lang/invoke/MethodHandle" ∧ y_Pt_isAt.cls ≠ "java/lang/invoke/VarHandle" ∧ (parseMethodDescriptor y_Pt_isAt.desc).map (fun d => d.parameters.length) = some 3 := ⟨by decide +kernel, by decide +kernel, by decide +kernel⟩
abbrev b_Pt_isFull : ByteArray := prog_4_method_2_code
def y_Pt_isFull : MethodName := ⟨R_Pt, "isFull", "()Z"⟩
def w_Pt_isFull : List Cond := .code y_Pt_isFull b_Pt_isFull 1 (some .boolean) :: TT
def rm_Pt_isFull : Room := { frames := 0, cells := 0, slots := 0, locals := 0 }
theorem gd_Pt_isFull {h : Cond} : GoodIn (h :: TT) w_Pt_isFull := gd_of wd_512
theorem dd_Pt_isFull : y_Pt_isFull.cls ≠ "java/lang/invoke/MethodHandle" ∧ y_Pt_isFull.cls ≠ "java/lang/invoke/VarHandle" ∧ (parseMethodDescriptor y_Pt_isFull.desc).map (fun d => d.parameters.length) = some 0 := ⟨by decide +kernel, by decide +kernel, by decide +kernel⟩
abbrev b_Pt_makeRoom : ByteArray := prog_4_method_3_code
def y_Pt_makeRoom : MethodName := ⟨R_Pt, "makeRoom", "(I)V"⟩
def w_Pt_makeRoom : List Cond := .code y_Pt_makeRoom b_Pt_makeRoom 2 none :: TT
def rm_Pt_makeRoom : Room := { frames := 1, cells := 2, slots := 64, locals := 21 }
theorem gd_Pt_makeRoom {h : Cond} : GoodIn (h :: TT) w_Pt_makeRoom := gd_of wd_536
theorem dd_Pt_makeRoom : y_Pt_makeRoom.cls ≠ "java/lang/invoke/MethodHandle" ∧ y_Pt_makeRoom.cls ≠ "java/lang/invoke/VarHandle" ∧ (parseMethodDescriptor y_Pt_makeRoom.desc).map (fun d => d.parameters.length) = some 1 := ⟨by decide +kernel, by decide +kernel, by decide +kernel⟩
abbrev b_Nt_makeRoom : ByteArray := prog_2_method_9_code
def y_Nt_makeRoom : MethodName := ⟨R_Nt, "makeRoom", "(I)V"⟩
def w_Nt_makeRoom : List Cond := .code y_Nt_makeRoom b_Nt_makeRoom 2 none :: TT
def rm_Nt_makeRoom : Room := { frames := 1, cells := 6, slots := 192, locals := 21 }
theorem gd_Nt_makeRoom {h : Cond} : GoodIn (h :: TT) w_Nt_makeRoom := gd_of wd_544
theorem dd_Nt_makeRoom : y_Nt_makeRoom.cls ≠ "java/lang/invoke/MethodHandle" ∧ y_Nt_makeRoom.cls ≠ "java/lang/invoke/VarHandle" ∧ (parseMethodDescriptor y_Nt_makeRoom.desc).map (fun d => d.parameters.length) = some 1 := ⟨by decide +kernel, by decide +kernel, by decide +kernel⟩
abbrev b_Rl_makeRoom : ByteArray := prog_5_method_2_code
def y_Rl_makeRoom : MethodName := ⟨R_Rl, "makeRoom", "(I)V"⟩
def w_Rl_makeRoom : List Cond := .code y_Rl_makeRoom b_Rl_makeRoom 2 none :: TT
def rm_Rl_makeRoom : Room := { frames := 1, cells := 3, slots := 96, locals := 21 }
theorem gd_Rl_makeRoom {h : Cond} : GoodIn (h :: TT) w_Rl_makeRoom := gd_of wd_549
theorem dd_Rl_makeRoom : y_Rl_makeRoom.cls ≠ "java/lang/invoke/MethodHandle" ∧ y_Rl_makeRoom.cls ≠ "java/lang/invoke/VarHandle" ∧ (parseMethodDescriptor y_Rl_makeRoom.desc).map (fun d => d.parameters.length) = some 1 := ⟨by decide +kernel, by decide +kernel, by decide +kernel⟩
abbrev b_Ol_makeRoom : ByteArray := prog_3_method_2_code
def y_Ol_makeRoom : MethodName := ⟨R_Ol, "makeRoom", "(I)V"⟩
def w_Ol_makeRoom : List Cond := .code y_Ol_makeRoom b_Ol_makeRoom 2 none :: TT
def rm_Ol_makeRoom : Room := { frames := 1, cells := 1, slots := 32, locals := 21 }
theorem gd_Ol_makeRoom {h : Cond} : GoodIn (h :: TT) w_Ol_makeRoom := gd_of wd_554
theorem dd_Ol_makeRoom : y_Ol_makeRoom.cls ≠ "java/lang/invoke/MethodHandle" ∧ y_Ol_makeRoom.cls ≠ "java/lang/invoke/VarHandle" ∧ (parseMethodDescriptor y_Ol_makeRoom.desc).map (fun d => d.parameters.length) = some 1 := ⟨by decide +kernel, by decide +kernel, by decide +kernel⟩
abbrev b_Pn_makeRoom : ByteArray := prog_1_method_17_code
def y_Pn_makeRoom : MethodName := ⟨R_Pn, "makeRoom", "(I)V"⟩
def w_Pn_makeRoom : List Cond := .code y_Pn_makeRoom b_Pn_makeRoom 2 none :: TT
def rm_Pn_makeRoom : Room := { frames := 2, cells := 12, slots := 384, locals := 42 }
theorem gd_Pn_makeRoom {h : Cond} : GoodIn (h :: TT) w_Pn_makeRoom := gd_of wd_532
theorem dd_Pn_makeRoom : y_Pn_makeRoom.cls ≠ "java/lang/invoke/MethodHandle" ∧ y_Pn_makeRoom.cls ≠ "java/lang/invoke/VarHandle" ∧ (parseMethodDescriptor y_Pn_makeRoom.desc).map (fun d => d.parameters.length) = some 1 := ⟨by decide +kernel, by decide +kernel, by decide +kernel⟩
abbrev b_Pt_append : ByteArray := prog_4_method_4_code
def y_Pt_append : MethodName := ⟨R_Pt, "append", "(II)I"⟩
def w_Pt_append : List Cond := .code y_Pt_append b_Pt_append 4 (some .int) :: TT
def rm_Pt_append : Room := { frames := 1, cells := 0, slots := 0, locals := 24 }
theorem gd_Pt_append {h : Cond} : GoodIn (h :: TT) w_Pt_append := gd_of wd_559
theorem dd_Pt_append : y_Pt_append.cls ≠ "java/lang/invoke/MethodHandle" ∧ y_Pt_append.cls ≠ "java/lang/invoke/VarHandle" ∧ (parseMethodDescriptor y_Pt_append.desc).map (fun d => d.parameters.length) = some 2 := ⟨by decide +kernel, by decide +kernel, by decide +kernel⟩
abbrev b_Pt_x : ByteArray := prog_4_method_5_code
def y_Pt_x : MethodName := ⟨R_Pt, "x", "(I)I"⟩
def w_Pt_x : List Cond := .code y_Pt_x b_Pt_x 2 (some .int) :: TT
def rm_Pt_x : Room := { frames := 1, cells := 0, slots := 0, locals := 23 }
theorem gd_Pt_x {h : Cond} : GoodIn (h :: TT) w_Pt_x := gd_of wd_403
theorem dd_Pt_x : y_Pt_x.cls ≠ "java/lang/invoke/MethodHandle" ∧ y_Pt_x.cls ≠ "java/lang/invoke/VarHandle" ∧ (parseMethodDescriptor y_Pt_x.desc).map (fun d => d.parameters.length) = some 1 := ⟨by decide +kernel, by decide +kernel, by decide +kernel⟩
abbrev b_Pt_y : ByteArray := prog_4_method_6_code
def y_Pt_y : MethodName := ⟨R_Pt, "y", "(I)I"⟩
def w_Pt_y : List Cond := .code y_Pt_y b_Pt_y 2 (some .int) :: TT
def rm_Pt_y : Room := { frames := 1, cells := 0, slots := 0, locals := 23 }
theorem gd_Pt_y {h : Cond} : GoodIn (h :: TT) w_Pt_y := gd_of wd_407
theorem dd_Pt_y : y_Pt_y.cls ≠ "java/lang/invoke/MethodHandle" ∧ y_Pt_y.cls ≠ "java/lang/invoke/VarHandle" ∧ (parseMethodDescriptor y_Pt_y.desc).map (fun d => d.parameters.length) = some 1 := ⟨by decide +kernel, by decide +kernel, by decide +kernel⟩
abbrev b_Pn_noteClosest : ByteArray := prog_1_method_18_code
def y_Pn_noteClosest : MethodName := ⟨R_Pn, "noteClosest", "(II)V"⟩
def w_Pn_noteClosest : List Cond := .code y_Pn_noteClosest b_Pn_noteClosest 5 none :: TT
def rm_Pn_noteClosest : Room := { frames := 2, cells := 0, slots := 0, locals := 50 }
theorem gd_Pn_noteClosest {h : Cond} : GoodIn (h :: TT) w_Pn_noteClosest := gd_of wd_564
theorem dd_Pn_noteClosest : y_Pn_noteClosest.cls ≠ "java/lang/invoke/MethodHandle" ∧ y_Pn_noteClosest.cls ≠ "java/lang/invoke/VarHandle" ∧ (parseMethodDescriptor y_Pn_noteClosest.desc).map (fun d => d.parameters.length) = some 2 := ⟨by decide +kernel, by decide +kernel, by decide +kernel⟩
abbrev b_Nt_isEmpty : ByteArray := prog_2_method_3_code
def y_Nt_isEmpty : MethodName := ⟨R_Nt, "isEmpty", "()Z"⟩
def w_Nt_isEmpty : List Cond := .code y_Nt_isEmpty b_Nt_isEmpty 1 (some .boolean) :: TT
def rm_Nt_isEmpty : Room := { frames := 0, cells := 0, slots := 0, locals := 0 }
theorem gd_Nt_isEmpty {h : Cond} : GoodIn (h :: TT) w_Nt_isEmpty := gd_of wd_325
theorem dd_Nt_isEmpty : y_Nt_isEmpty.cls ≠ "java/lang/invoke/MethodHandle" ∧ y_Nt_isEmpty.cls ≠ "java/lang/invoke/VarHandle" ∧ (parseMethodDescriptor y_Nt_isEmpty.desc).map (fun d => d.parameters.length) = some 0 := ⟨by decide +kernel, by decide +kernel, by decide +kernel⟩
abbrev b_Pt_turn : ByteArray := prog_4_method_15_code
def y_Pt_turn : MethodName := ⟨R_Pt, "turn", "(IIII)J"⟩
def w_Pt_turn : List Cond := .code y_Pt_turn b_Pt_turn 13 (some .long) :: TT
def rm_Pt_turn : Room := { frames := 1, cells := 0, slots := 0, locals := 23 }
theorem gd_Pt_turn {h : Cond} : GoodIn (h :: TT) w_Pt_turn := gd_of wd_411
theorem dd_Pt_turn : y_Pt_turn.cls ≠ "java/lang/invoke/MethodHandle" ∧ y_Pt_turn.cls ≠ "java/lang/invoke/VarHandle" ∧ (parseMethodDescriptor y_Pt_turn.desc).map (fun d => d.parameters.length) = some 4 := ⟨by decide +kernel, by decide +kernel, by decide +kernel⟩
abbrev b_Nt_placeOf : ByteArray := prog_2_method_12_code
def y_Nt_placeOf : MethodName := ⟨R_Nt, "placeOf", "(I)I"⟩
def w_Nt_placeOf : List Cond := .code y_Nt_placeOf b_Nt_placeOf 2 (some .int) :: TT
def rm_Nt_placeOf : Room := { frames := 0, cells := 0, slots := 0, locals := 0 }
theorem gd_Nt_placeOf {h : Cond} : GoodIn (h :: TT) w_Nt_placeOf := gd_of wd_375
theorem dd_Nt_placeOf : y_Nt_placeOf.cls ≠ "java/lang/invoke/MethodHandle" ∧ y_Nt_placeOf.cls ≠ "java/lang/invoke/VarHandle" ∧ (parseMethodDescriptor y_Nt_placeOf.desc).map (fun d => d.parameters.length) = some 1 := ⟨by decide +kernel, by decide +kernel, by decide +kernel⟩
abbrev b_Nt_setTriangle : ByteArray := prog_2_method_11_code
def y_Nt_setTriangle : MethodName := ⟨R_Nt, "setTriangle", "(IIII)V"⟩
def w_Nt_setTriangle : List Cond := .code y_Nt_setTriangle b_Nt_setTriangle 6 none :: TT
def rm_Nt_setTriangle : Room := { frames := 1, cells := 0, slots := 0, locals := 24 }
theorem gd_Nt_setTriangle {h : Cond} : GoodIn (h :: TT) w_Nt_setTriangle := gd_of wd_581
theorem dd_Nt_setTriangle : y_Nt_setTriangle.cls ≠ "java/lang/invoke/MethodHandle" ∧ y_Nt_setTriangle.cls ≠ "java/lang/invoke/VarHandle" ∧ (parseMethodDescriptor y_Nt_setTriangle.desc).map (fun d => d.parameters.length) = some 4 := ⟨by decide +kernel, by decide +kernel, by decide +kernel⟩
abbrev b_Nt_join : ByteArray := prog_2_method_13_code
def y_Nt_join : MethodName := ⟨R_Nt, "join", "(II)V"⟩
def w_Nt_join : List Cond := .code y_Nt_join b_Nt_join 3 none :: TT
def rm_Nt_join : Room := { frames := 1, cells := 0, slots := 0, locals := 24 }
theorem gd_Nt_join {h : Cond} : GoodIn (h :: TT) w_Nt_join := gd_of wd_586
theorem dd_Nt_join : y_Nt_join.cls ≠ "java/lang/invoke/MethodHandle" ∧ y_Nt_join.cls ≠ "java/lang/invoke/VarHandle" ∧ (parseMethodDescriptor y_Nt_join.desc).map (fun d => d.parameters.length) = some 2 := ⟨by decide +kernel, by decide +kernel, by decide +kernel⟩
abbrev b_Nt_begin : ByteArray := prog_2_method_10_code
def y_Nt_begin : MethodName := ⟨R_Nt, "begin", "(III)V"⟩
def w_Nt_begin : List Cond := .code y_Nt_begin b_Nt_begin 4 none :: TT
def rm_Nt_begin : Room := { frames := 2, cells := 0, slots := 0, locals := 49 }
theorem gd_Nt_begin {h : Cond} : GoodIn (h :: TT) w_Nt_begin := gd_of wd_577
theorem dd_Nt_begin : y_Nt_begin.cls ≠ "java/lang/invoke/MethodHandle" ∧ y_Nt_begin.cls ≠ "java/lang/invoke/VarHandle" ∧ (parseMethodDescriptor y_Nt_begin.desc).map (fun d => d.parameters.length) = some 3 := ⟨by decide +kernel, by decide +kernel, by decide +kernel⟩
abbrev b_Nt_isOuter : ByteArray := prog_2_method_19_code
def y_Nt_isOuter : MethodName := ⟨R_Nt, "isOuter", "(I)Z"⟩
def w_Nt_isOuter : List Cond := .code y_Nt_isOuter b_Nt_isOuter 3 (some .boolean) :: TT
def rm_Nt_isOuter : Room := { frames := 1, cells := 0, slots := 0, locals := 23 }
theorem gd_Nt_isOuter {h : Cond} : GoodIn (h :: TT) w_Nt_isOuter := gd_of wd_600
theorem dd_Nt_isOuter : y_Nt_isOuter.cls ≠ "java/lang/invoke/MethodHandle" ∧ y_Nt_isOuter.cls ≠ "java/lang/invoke/VarHandle" ∧ (parseMethodDescriptor y_Nt_isOuter.desc).map (fun d => d.parameters.length) = some 1 := ⟨by decide +kernel, by decide +kernel, by decide +kernel⟩
abbrev b_Nt_ahead : ByteArray := prog_2_method_2_code
def y_Nt_ahead : MethodName := ⟨R_Nt, "ahead", "(II)I"⟩
def w_Nt_ahead : List Cond := .code y_Nt_ahead b_Nt_ahead 3 (some .int) :: TT
def rm_Nt_ahead : Room := { frames := 0, cells := 0, slots := 0, locals := 0 }
theorem gd_Nt_ahead {h : Cond} : GoodIn (h :: TT) w_Nt_ahead := gd_of wd_383
theorem dd_Nt_ahead : y_Nt_ahead.cls ≠ "java/lang/invoke/MethodHandle" ∧ y_Nt_ahead.cls ≠ "java/lang/invoke/VarHandle" ∧ (parseMethodDescriptor y_Nt_ahead.desc).map (fun d => d.parameters.length) = some 2 := ⟨by decide +kernel, by decide +kernel, by decide +kernel⟩
abbrev b_Nt_baseOf : ByteArray := prog_2_method_20_code
def y_Nt_baseOf : MethodName := ⟨R_Nt, "baseOf", "(I)I"⟩
def w_Nt_baseOf : List Cond := .code y_Nt_baseOf b_Nt_baseOf 4 (some .int) :: TT
def rm_Nt_baseOf : Room := { frames := 1, cells := 0, slots := 0, locals := 23 }
theorem gd_Nt_baseOf {h : Cond} : GoodIn (h :: TT) w_Nt_baseOf := gd_of wd_604
theorem dd_Nt_baseOf : y_Nt_baseOf.cls ≠ "java/lang/invoke/MethodHandle" ∧ y_Nt_baseOf.cls ≠ "java/lang/invoke/VarHandle" ∧ (parseMethodDescriptor y_Nt_baseOf.desc).map (fun d => d.parameters.length) = some 1 := ⟨by decide +kernel, by decide +kernel, by decide +kernel⟩
abbrev b_Nt_startOf : ByteArray := prog_2_method_6_code
def y_Nt_startOf : MethodName := ⟨R_Nt, "startOf", "(I)I"⟩
def w_Nt_startOf : List Cond := .code y_Nt_startOf b_Nt_startOf 2 (some .int) :: TT
def rm_Nt_startOf : Room := { frames := 1, cells := 0, slots := 0, locals := 23 }
theorem gd_Nt_startOf {h : Cond} : GoodIn (h :: TT) w_Nt_startOf := gd_of wd_395
theorem dd_Nt_startOf : y_Nt_startOf.cls ≠ "java/lang/invoke/MethodHandle" ∧ y_Nt_startOf.cls ≠ "java/lang/invoke/VarHandle" ∧ (parseMethodDescriptor y_Nt_startOf.desc).map (fun d => d.parameters.length) = some 1 := ⟨by decide +kernel, by decide +kernel, by decide +kernel⟩
abbrev b_Nt_endOf : ByteArray := prog_2_method_7_code
def y_Nt_endOf : MethodName := ⟨R_Nt, "endOf", "(I)I"⟩
def w_Nt_endOf : List Cond := .code y_Nt_endOf b_Nt_endOf 2 (some .int) :: TT
def rm_Nt_endOf : Room := { frames := 1, cells := 0, slots := 0, locals := 23 }
theorem gd_Nt_endOf {h : Cond} : GoodIn (h :: TT) w_Nt_endOf := gd_of wd_380
theorem dd_Nt_endOf : y_Nt_endOf.cls ≠ "java/lang/invoke/MethodHandle" ∧ y_Nt_endOf.cls ≠ "java/lang/invoke/VarHandle" ∧ (parseMethodDescriptor y_Nt_endOf.desc).map (fun d => d.parameters.length) = some 1 := ⟨by decide +kernel, by decide +kernel, by decide +kernel⟩
abbrev b_Nt_wayOut : ByteArray := prog_2_method_22_code
def y_Nt_wayOut : MethodName := ⟨R_Nt, "wayOut", "(III)I"⟩
def w_Nt_wayOut : List Cond := .code y_Nt_wayOut b_Nt_wayOut 6 (some .int) :: TT
def rm_Nt_wayOut : Room := { frames := 2, cells := 0, slots := 0, locals := 55 }
theorem gd_Nt_wayOut {h : Cond} : GoodIn (h :: TT) w_Nt_wayOut := gd_of wd_608
theorem dd_Nt_wayOut : y_Nt_wayOut.cls ≠ "java/lang/invoke/MethodHandle" ∧ y_Nt_wayOut.cls ≠ "java/lang/invoke/VarHandle" ∧ (parseMethodDescriptor y_Nt_wayOut.desc).map (fun d => d.parameters.length) = some 3 := ⟨by decide +kernel, by decide +kernel, by decide +kernel⟩
abbrev b_Nt_holder : ByteArray := prog_2_method_21_code
def y_Nt_holder : MethodName := ⟨R_Nt, "holder", "(III)I"⟩
def w_Nt_holder : List Cond := .code y_Nt_holder b_Nt_holder 7 (some .int) :: TT
def rm_Nt_holder : Room := { frames := 3, cells := 0, slots := 0, locals := 80 }
theorem gd_Nt_holder {h : Cond} : GoodIn (h :: TT) w_Nt_holder := gd_of wd_596
theorem dd_Nt_holder : y_Nt_holder.cls ≠ "java/lang/invoke/MethodHandle" ∧ y_Nt_holder.cls ≠ "java/lang/invoke/VarHandle" ∧ (parseMethodDescriptor y_Nt_holder.desc).map (fun d => d.parameters.length) = some 3 := ⟨by decide +kernel, by decide +kernel, by decide +kernel⟩
abbrev b_Nt_takeAway : ByteArray := prog_2_method_16_code
def y_Nt_takeAway : MethodName := ⟨R_Nt, "takeAway", "(I)V"⟩
def w_Nt_takeAway : List Cond := .code y_Nt_takeAway b_Nt_takeAway 2 none :: TT
def rm_Nt_takeAway : Room := { frames := 2, cells := 0, slots := 0, locals := 45 }
theorem gd_Nt_takeAway {h : Cond} : GoodIn (h :: TT) w_Nt_takeAway := gd_of wd_618
theorem dd_Nt_takeAway : y_Nt_takeAway.cls ≠ "java/lang/invoke/MethodHandle" ∧ y_Nt_takeAway.cls ≠ "java/lang/invoke/VarHandle" ∧ (parseMethodDescriptor y_Nt_takeAway.desc).map (fun d => d.parameters.length) = some 1 := ⟨by decide +kernel, by decide +kernel, by decide +kernel⟩
abbrev b_Pt_isLess : ByteArray := prog_4_method_8_code
def y_Pt_isLess : MethodName := ⟨R_Pt, "isLess", "(II)Z"⟩
def w_Pt_isLess : List Cond := .code y_Pt_isLess b_Pt_isLess 3 (some .boolean) :: TT
def rm_Pt_isLess : Room := { frames := 1, cells := 0, slots := 0, locals := 23 }
theorem gd_Pt_isLess {h : Cond} : GoodIn (h :: TT) w_Pt_isLess := gd_of wd_346
theorem dd_Pt_isLess : y_Pt_isLess.cls ≠ "java/lang/invoke/MethodHandle" ∧ y_Pt_isLess.cls ≠ "java/lang/invoke/VarHandle" ∧ (parseMethodDescriptor y_Pt_isLess.desc).map (fun d => d.parameters.length) = some 2 := ⟨by decide +kernel, by decide +kernel, by decide +kernel⟩
abbrev b_Nt_isSeen : ByteArray := prog_2_method_18_code
def y_Nt_isSeen : MethodName := ⟨R_Nt, "isSeen", "(II)Z"⟩
def w_Nt_isSeen : List Cond := .code y_Nt_isSeen b_Nt_isSeen 8 (some .boolean) :: TT
def rm_Nt_isSeen : Room := { frames := 2, cells := 0, slots := 0, locals := 55 }
theorem gd_Nt_isSeen {h : Cond} : GoodIn (h :: TT) w_Nt_isSeen := gd_of wd_622
theorem dd_Nt_isSeen : y_Nt_isSeen.cls ≠ "java/lang/invoke/MethodHandle" ∧ y_Nt_isSeen.cls ≠ "java/lang/invoke/VarHandle" ∧ (parseMethodDescriptor y_Nt_isSeen.desc).map (fun d => d.parameters.length) = some 2 := ⟨by decide +kernel, by decide +kernel, by decide +kernel⟩
abbrev b_Wd_reset : ByteArray := prog_7_method_2_code
def y_Wd_reset : MethodName := ⟨R_Wd, "reset", "()V"⟩
def w_Wd_reset : List Cond := .code y_Wd_reset b_Wd_reset 1 none :: TT
def rm_Wd_reset : Room := { frames := 0, cells := 0, slots := 0, locals := 0 }
theorem gd_Wd_reset {h : Cond} : GoodIn (h :: TT) w_Wd_reset := gd_of wd_631
theorem dd_Wd_reset : y_Wd_reset.cls ≠ "java/lang/invoke/MethodHandle" ∧ y_Wd_reset.cls ≠ "java/lang/invoke/VarHandle" ∧ (parseMethodDescriptor y_Wd_reset.desc).map (fun d => d.parameters.length) = some 0 := ⟨by decide +kernel, by decide +kernel, by decide +kernel⟩
abbrev b_Pt_dot : ByteArray := prog_4_method_16_code
def y_Pt_dot : MethodName := ⟨R_Pt, "dot", "(III)J"⟩
def w_Pt_dot : List Cond := .code y_Pt_dot b_Pt_dot 12 (some .long) :: TT
def rm_Pt_dot : Room := { frames := 1, cells := 0, slots := 0, locals := 23 }
theorem gd_Pt_dot {h : Cond} : GoodIn (h :: TT) w_Pt_dot := gd_of wd_636
theorem dd_Pt_dot : y_Pt_dot.cls ≠ "java/lang/invoke/MethodHandle" ∧ y_Pt_dot.cls ≠ "java/lang/invoke/VarHandle" ∧ (parseMethodDescriptor y_Pt_dot.desc).map (fun d => d.parameters.length) = some 3 := ⟨by decide +kernel, by decide +kernel, by decide +kernel⟩
abbrev b_Wd_addProduct : ByteArray := prog_7_method_3_code
def y_Wd_addProduct : MethodName := ⟨R_Wd, "addProduct", "(JJ)V"⟩
def w_Wd_addProduct : List Cond := .code y_Wd_addProduct b_Wd_addProduct 25 none :: TT
def rm_Wd_addProduct : Room := { frames := 0, cells := 0, slots := 0, locals := 0 }
theorem gd_Wd_addProduct {h : Cond} : GoodIn (h :: TT) w_Wd_addProduct := gd_of wd_640
theorem dd_Wd_addProduct : y_Wd_addProduct.cls ≠ "java/lang/invoke/MethodHandle" ∧ y_Wd_addProduct.cls ≠ "java/lang/invoke/VarHandle" ∧ (parseMethodDescriptor y_Wd_addProduct.desc).map (fun d => d.parameters.length) = some 2 := ⟨by decide +kernel, by decide +kernel, by decide +kernel⟩
abbrev b_Wd_sign : ByteArray := prog_7_method_4_code
def y_Wd_sign : MethodName := ⟨R_Wd, "sign", "()I"⟩
def w_Wd_sign : List Cond := .code y_Wd_sign b_Wd_sign 1 (some .int) :: TT
def rm_Wd_sign : Room := { frames := 0, cells := 0, slots := 0, locals := 0 }
theorem gd_Wd_sign {h : Cond} : GoodIn (h :: TT) w_Wd_sign := gd_of wd_646
theorem dd_Wd_sign : y_Wd_sign.cls ≠ "java/lang/invoke/MethodHandle" ∧ y_Wd_sign.cls ≠ "java/lang/invoke/VarHandle" ∧ (parseMethodDescriptor y_Wd_sign.desc).map (fun d => d.parameters.length) = some 0 := ⟨by decide +kernel, by decide +kernel, by decide +kernel⟩
abbrev b_Pt_takesAway : ByteArray := prog_4_method_17_code
def y_Pt_takesAway : MethodName := ⟨R_Pt, "takesAway", "(IIII)Z"⟩
def w_Pt_takesAway : List Cond := .code y_Pt_takesAway b_Pt_takesAway 6 (some .boolean) :: TT
def rm_Pt_takesAway : Room := { frames := 2, cells := 0, slots := 0, locals := 55 }
theorem gd_Pt_takesAway {h : Cond} : GoodIn (h :: TT) w_Pt_takesAway := gd_of wd_627
theorem dd_Pt_takesAway : y_Pt_takesAway.cls ≠ "java/lang/invoke/MethodHandle" ∧ y_Pt_takesAway.cls ≠ "java/lang/invoke/VarHandle" ∧ (parseMethodDescriptor y_Pt_takesAway.desc).map (fun d => d.parameters.length) = some 4 := ⟨by decide +kernel, by decide +kernel, by decide +kernel⟩
abbrev b_Nt_dig : ByteArray := prog_2_method_15_code
def y_Nt_dig : MethodName := ⟨R_Nt, "dig", "(II)V"⟩
def w_Nt_dig : List Cond := .code y_Nt_dig b_Nt_dig 8 none :: TT
def rm_Nt_dig : Room := { frames := 3, cells := 0, slots := 0, locals := 82 }
theorem gd_Nt_dig {h : Cond} : GoodIn (h :: TT) w_Nt_dig := gd_of wd_614
theorem dd_Nt_dig : y_Nt_dig.cls ≠ "java/lang/invoke/MethodHandle" ∧ y_Nt_dig.cls ≠ "java/lang/invoke/VarHandle" ∧ (parseMethodDescriptor y_Nt_dig.desc).map (fun d => d.parameters.length) = some 2 := ⟨by decide +kernel, by decide +kernel, by decide +kernel⟩
abbrev b_Nt_fill : ByteArray := prog_2_method_17_code
def y_Nt_fill : MethodName := ⟨R_Nt, "fill", "(I)V"⟩
def w_Nt_fill : List Cond := .code y_Nt_fill b_Nt_fill 5 none :: TT
def rm_Nt_fill : Room := { frames := 2, cells := 0, slots := 0, locals := 49 }
theorem gd_Nt_fill {h : Cond} : GoodIn (h :: TT) w_Nt_fill := gd_of wd_650
theorem dd_Nt_fill : y_Nt_fill.cls ≠ "java/lang/invoke/MethodHandle" ∧ y_Nt_fill.cls ≠ "java/lang/invoke/VarHandle" ∧ (parseMethodDescriptor y_Nt_fill.desc).map (fun d => d.parameters.length) = some 1 := ⟨by decide +kernel, by decide +kernel, by decide +kernel⟩
abbrev b_Nt_insert : ByteArray := prog_2_method_14_code
def y_Nt_insert : MethodName := ⟨R_Nt, "insert", "(II)V"⟩
def w_Nt_insert : List Cond := .code y_Nt_insert b_Nt_insert 3 none :: TT
def rm_Nt_insert : Room := { frames := 4, cells := 0, slots := 0, locals := 109 }
theorem gd_Nt_insert {h : Cond} : GoodIn (h :: TT) w_Nt_insert := gd_of wd_590
theorem dd_Nt_insert : y_Nt_insert.cls ≠ "java/lang/invoke/MethodHandle" ∧ y_Nt_insert.cls ≠ "java/lang/invoke/VarHandle" ∧ (parseMethodDescriptor y_Nt_insert.desc).map (fun d => d.parameters.length) = some 2 := ⟨by decide +kernel, by decide +kernel, by decide +kernel⟩
abbrev b_Pn_tryToBeginNet : ByteArray := prog_1_method_19_code
def y_Pn_tryToBeginNet : MethodName := ⟨R_Pn, "tryToBeginNet", "(I)V"⟩
def w_Pn_tryToBeginNet : List Cond := .code y_Pn_tryToBeginNet b_Pn_tryToBeginNet 5 none :: TT
def rm_Pn_tryToBeginNet : Room := { frames := 5, cells := 0, slots := 0, locals := 131 }
theorem gd_Pn_tryToBeginNet {h : Cond} : GoodIn (h :: TT) w_Pn_tryToBeginNet := gd_of wd_572
theorem dd_Pn_tryToBeginNet : y_Pn_tryToBeginNet.cls ≠ "java/lang/invoke/MethodHandle" ∧ y_Pn_tryToBeginNet.cls ≠ "java/lang/invoke/VarHandle" ∧ (parseMethodDescriptor y_Pn_tryToBeginNet.desc).map (fun d => d.parameters.length) = some 1 := ⟨by decide +kernel, by decide +kernel, by decide +kernel⟩
abbrev b_Ar_fill : ByteArray := prog_18_method_103_code
def y_Ar_fill : MethodName := ⟨R_Ar, "fill", "([II)V"⟩
def w_Ar_fill : List Cond := .code y_Ar_fill b_Ar_fill 4 none :: TT
def rm_Ar_fill : Room := { frames := 0, cells := 0, slots := 0, locals := 0 }
theorem gd_Ar_fill {h : Cond} : GoodIn (h :: TT) w_Ar_fill := gd_of wd_293
theorem dd_Ar_fill : y_Ar_fill.cls ≠ "java/lang/invoke/MethodHandle" ∧ y_Ar_fill.cls ≠ "java/lang/invoke/VarHandle" ∧ (parseMethodDescriptor y_Ar_fill.desc).map (fun d => d.parameters.length) = some 2 := ⟨by decide +kernel, by decide +kernel, by decide +kernel⟩
abbrev b_Pn_forgetFound : ByteArray := prog_1_method_21_code
def y_Pn_forgetFound : MethodName := ⟨R_Pn, "forgetFound", "()V"⟩
def w_Pn_forgetFound : List Cond := .code y_Pn_forgetFound b_Pn_forgetFound 1 none :: TT
def rm_Pn_forgetFound : Room := { frames := 1, cells := 0, slots := 0, locals := 23 }
theorem gd_Pn_forgetFound {h : Cond} : GoodIn (h :: TT) w_Pn_forgetFound := gd_of wd_290
theorem dd_Pn_forgetFound : y_Pn_forgetFound.cls ≠ "java/lang/invoke/MethodHandle" ∧ y_Pn_forgetFound.cls ≠ "java/lang/invoke/VarHandle" ∧ (parseMethodDescriptor y_Pn_forgetFound.desc).map (fun d => d.parameters.length) = some 0 := ⟨by decide +kernel, by decide +kernel, by decide +kernel⟩
abbrev b_Rl_forget : ByteArray := prog_5_method_3_code
def y_Rl_forget : MethodName := ⟨R_Rl, "forget", "()V"⟩
def w_Rl_forget : List Cond := .code y_Rl_forget b_Rl_forget 1 none :: TT
def rm_Rl_forget : Room := { frames := 0, cells := 0, slots := 0, locals := 0 }
theorem gd_Rl_forget {h : Cond} : GoodIn (h :: TT) w_Rl_forget := gd_of wd_297
theorem dd_Rl_forget : y_Rl_forget.cls ≠ "java/lang/invoke/MethodHandle" ∧ y_Rl_forget.cls ≠ "java/lang/invoke/VarHandle" ∧ (parseMethodDescriptor y_Rl_forget.desc).map (fun d => d.parameters.length) = some 0 := ⟨by decide +kernel, by decide +kernel, by decide +kernel⟩
abbrev b_Ol_forget : ByteArray := prog_3_method_3_code
def y_Ol_forget : MethodName := ⟨R_Ol, "forget", "()V"⟩
def w_Ol_forget : List Cond := .code y_Ol_forget b_Ol_forget 1 none :: TT
def rm_Ol_forget : Room := { frames := 0, cells := 0, slots := 0, locals := 0 }
theorem gd_Ol_forget {h : Cond} : GoodIn (h :: TT) w_Ol_forget := gd_of wd_301
theorem dd_Ol_forget : y_Ol_forget.cls ≠ "java/lang/invoke/MethodHandle" ∧ y_Ol_forget.cls ≠ "java/lang/invoke/VarHandle" ∧ (parseMethodDescriptor y_Ol_forget.desc).map (fun d => d.parameters.length) = some 0 := ⟨by decide +kernel, by decide +kernel, by decide +kernel⟩
abbrev b_Pn_forgetAnswers : ByteArray := prog_1_method_20_code
def y_Pn_forgetAnswers : MethodName := ⟨R_Pn, "forgetAnswers", "()V"⟩
def w_Pn_forgetAnswers : List Cond := .code y_Pn_forgetAnswers b_Pn_forgetAnswers 1 none :: TT
def rm_Pn_forgetAnswers : Room := { frames := 2, cells := 0, slots := 0, locals := 43 }
theorem gd_Pn_forgetAnswers {h : Cond} : GoodIn (h :: TT) w_Pn_forgetAnswers := gd_of wd_286
theorem dd_Pn_forgetAnswers : y_Pn_forgetAnswers.cls ≠ "java/lang/invoke/MethodHandle" ∧ y_Pn_forgetAnswers.cls ≠ "java/lang/invoke/VarHandle" ∧ (parseMethodDescriptor y_Pn_forgetAnswers.desc).map (fun d => d.parameters.length) = some 0 := ⟨by decide +kernel, by decide +kernel, by decide +kernel⟩
abbrev b_Pn_add : ByteArray := prog_1_method_2_code
def y_Pn_add : MethodName := ⟨R_Pn, "add", "(II)I"⟩
def w_Pn_add : List Cond := .code y_Pn_add b_Pn_add 5 (some .int) :: TT
def rm_Pn_add : Room := { frames := 6, cells := 12, slots := 384, locals := 155 }
theorem gd_Pn_add {h : Cond} : GoodIn (h :: TT) w_Pn_add := gd_of wd_423
theorem dd_Pn_add : y_Pn_add.cls ≠ "java/lang/invoke/MethodHandle" ∧ y_Pn_add.cls ≠ "java/lang/invoke/VarHandle" ∧ (parseMethodDescriptor y_Pn_add.desc).map (fun d => d.parameters.length) = some 2 := ⟨by decide +kernel, by decide +kernel, by decide +kernel⟩
abbrev b_Nt_removeAll : ByteArray := prog_2_method_8_code
def y_Nt_removeAll : MethodName := ⟨R_Nt, "removeAll", "()V"⟩
def w_Nt_removeAll : List Cond := .code y_Nt_removeAll b_Nt_removeAll 1 none :: TT
def rm_Nt_removeAll : Room := { frames := 0, cells := 0, slots := 0, locals := 0 }
theorem gd_Nt_removeAll {h : Cond} : GoodIn (h :: TT) w_Nt_removeAll := gd_of wd_282
theorem dd_Nt_removeAll : y_Nt_removeAll.cls ≠ "java/lang/invoke/MethodHandle" ∧ y_Nt_removeAll.cls ≠ "java/lang/invoke/VarHandle" ∧ (parseMethodDescriptor y_Nt_removeAll.desc).map (fun d => d.parameters.length) = some 0 := ⟨by decide +kernel, by decide +kernel, by decide +kernel⟩
abbrev b_Pn_clear : ByteArray := prog_1_method_3_code
def y_Pn_clear : MethodName := ⟨R_Pn, "clear", "()I"⟩
def w_Pn_clear : List Cond := .code y_Pn_clear b_Pn_clear 2 (some .int) :: TT
def rm_Pn_clear : Room := { frames := 3, cells := 0, slots := 0, locals := 63 }
theorem gd_Pn_clear {h : Cond} : GoodIn (h :: TT) w_Pn_clear := gd_of wd_278
theorem dd_Pn_clear : y_Pn_clear.cls ≠ "java/lang/invoke/MethodHandle" ∧ y_Pn_clear.cls ≠ "java/lang/invoke/VarHandle" ∧ (parseMethodDescriptor y_Pn_clear.desc).map (fun d => d.parameters.length) = some 0 := ⟨by decide +kernel, by decide +kernel, by decide +kernel⟩
abbrev b_Pn_find : ByteArray := prog_1_method_4_code
def y_Pn_find : MethodName := ⟨R_Pn, "find", "(II)I"⟩
def w_Pn_find : List Cond := .code y_Pn_find b_Pn_find 4 (some .int) :: TT
def rm_Pn_find : Room := { frames := 3, cells := 0, slots := 0, locals := 79 }
theorem gd_Pn_find {h : Cond} : GoodIn (h :: TT) w_Pn_find := gd_of wd_657
theorem dd_Pn_find : y_Pn_find.cls ≠ "java/lang/invoke/MethodHandle" ∧ y_Pn_find.cls ≠ "java/lang/invoke/VarHandle" ∧ (parseMethodDescriptor y_Pn_find.desc).map (fun d => d.parameters.length) = some 2 := ⟨by decide +kernel, by decide +kernel, by decide +kernel⟩
abbrev b_Nt_solidCount : ByteArray := prog_2_method_4_code
def y_Nt_solidCount : MethodName := ⟨R_Nt, "solidCount", "()I"⟩
def w_Nt_solidCount : List Cond := .code y_Nt_solidCount b_Nt_solidCount 1 (some .int) :: TT
def rm_Nt_solidCount : Room := { frames := 0, cells := 0, slots := 0, locals := 0 }
theorem gd_Nt_solidCount {h : Cond} : GoodIn (h :: TT) w_Nt_solidCount := gd_of wd_313
theorem dd_Nt_solidCount : y_Nt_solidCount.cls ≠ "java/lang/invoke/MethodHandle" ∧ y_Nt_solidCount.cls ≠ "java/lang/invoke/VarHandle" ∧ (parseMethodDescriptor y_Nt_solidCount.desc).map (fun d => d.parameters.length) = some 0 := ⟨by decide +kernel, by decide +kernel, by decide +kernel⟩
abbrev b_Nt_edgeCount : ByteArray := prog_2_method_5_code
def y_Nt_edgeCount : MethodName := ⟨R_Nt, "edgeCount", "()I"⟩
def w_Nt_edgeCount : List Cond := .code y_Nt_edgeCount b_Nt_edgeCount 1 (some .int) :: TT
def rm_Nt_edgeCount : Room := { frames := 0, cells := 0, slots := 0, locals := 0 }
theorem gd_Nt_edgeCount {h : Cond} : GoodIn (h :: TT) w_Nt_edgeCount := gd_of wd_697
theorem dd_Nt_edgeCount : y_Nt_edgeCount.cls ≠ "java/lang/invoke/MethodHandle" ∧ y_Nt_edgeCount.cls ≠ "java/lang/invoke/VarHandle" ∧ (parseMethodDescriptor y_Nt_edgeCount.desc).map (fun d => d.parameters.length) = some 0 := ⟨by decide +kernel, by decide +kernel, by decide +kernel⟩
abbrev b_Nt_lowestFirst : ByteArray := prog_2_method_23_code
def y_Nt_lowestFirst : MethodName := ⟨R_Nt, "lowestFirst", "(I)I"⟩
def w_Nt_lowestFirst : List Cond := .code y_Nt_lowestFirst b_Nt_lowestFirst 5 (some .int) :: TT
def rm_Nt_lowestFirst : Room := { frames := 2, cells := 0, slots := 0, locals := 44 }
theorem gd_Nt_lowestFirst {h : Cond} : GoodIn (h :: TT) w_Nt_lowestFirst := gd_of wd_702
theorem dd_Nt_lowestFirst : y_Nt_lowestFirst.cls ≠ "java/lang/invoke/MethodHandle" ∧ y_Nt_lowestFirst.cls ≠ "java/lang/invoke/VarHandle" ∧ (parseMethodDescriptor y_Nt_lowestFirst.desc).map (fun d => d.parameters.length) = some 1 := ⟨by decide +kernel, by decide +kernel, by decide +kernel⟩
abbrev b_Rl_gather : ByteArray := prog_5_method_6_code
def y_Rl_gather : MethodName := ⟨R_Rl, "gather", "()I"⟩
def w_Rl_gather : List Cond := .code y_Rl_gather b_Rl_gather 3 (some .int) :: TT
def rm_Rl_gather : Room := { frames := 3, cells := 0, slots := 0, locals := 68 }
theorem gd_Rl_gather {h : Cond} : GoodIn (h :: TT) w_Rl_gather := gd_of wd_693
theorem dd_Rl_gather : y_Rl_gather.cls ≠ "java/lang/invoke/MethodHandle" ∧ y_Rl_gather.cls ≠ "java/lang/invoke/VarHandle" ∧ (parseMethodDescriptor y_Rl_gather.desc).map (fun d => d.parameters.length) = some 0 := ⟨by decide +kernel, by decide +kernel, by decide +kernel⟩
abbrev b_Rl_sortInto : ByteArray := prog_5_method_7_code
def y_Rl_sortInto : MethodName := ⟨R_Rl, "sortInto", "(LPlaneNet$Row;LPlaneNet$Row;II)V"⟩
def w_Rl_sortInto : List Cond := .code y_Rl_sortInto b_Rl_sortInto 9 none :: TT
def rm_Rl_sortInto : Room := { frames := 2, cells := 0, slots := 0, locals := 44 }
theorem gd_Rl_sortInto {h : Cond} : GoodIn (h :: TT) w_Rl_sortInto := gd_of wd_707
theorem dd_Rl_sortInto : y_Rl_sortInto.cls ≠ "java/lang/invoke/MethodHandle" ∧ y_Rl_sortInto.cls ≠ "java/lang/invoke/VarHandle" ∧ (parseMethodDescriptor y_Rl_sortInto.desc).map (fun d => d.parameters.length) = some 4 := ⟨by decide +kernel, by decide +kernel, by decide +kernel⟩
abbrev b_Rl_sortAll : ByteArray := prog_5_method_5_code
def y_Rl_sortAll : MethodName := ⟨R_Rl, "sortAll", "()V"⟩
def w_Rl_sortAll : List Cond := .code y_Rl_sortAll b_Rl_sortAll 2 none :: TT
def rm_Rl_sortAll : Room := { frames := 4, cells := 0, slots := 0, locals := 90 }
theorem gd_Rl_sortAll {h : Cond} : GoodIn (h :: TT) w_Rl_sortAll := gd_of wd_689
theorem dd_Rl_sortAll : y_Rl_sortAll.cls ≠ "java/lang/invoke/MethodHandle" ∧ y_Rl_sortAll.cls ≠ "java/lang/invoke/VarHandle" ∧ (parseMethodDescriptor y_Rl_sortAll.desc).map (fun d => d.parameters.length) = some 0 := ⟨by decide +kernel, by decide +kernel, by decide +kernel⟩
abbrev b_Rl_edge : ByteArray := prog_5_method_4_code
def y_Rl_edge : MethodName := ⟨R_Rl, "edge", "(I)I"⟩
def w_Rl_edge : List Cond := .code y_Rl_edge b_Rl_edge 2 (some .int) :: TT
def rm_Rl_edge : Room := { frames := 5, cells := 0, slots := 0, locals := 111 }
theorem gd_Rl_edge {h : Cond} : GoodIn (h :: TT) w_Rl_edge := gd_of wd_685
theorem dd_Rl_edge : y_Rl_edge.cls ≠ "java/lang/invoke/MethodHandle" ∧ y_Rl_edge.cls ≠ "java/lang/invoke/VarHandle" ∧ (parseMethodDescriptor y_Rl_edge.desc).map (fun d => d.parameters.length) = some 1 := ⟨by decide +kernel, by decide +kernel, by decide +kernel⟩
abbrev b_Pn_triangle : ByteArray := prog_1_method_5_code
def y_Pn_triangle : MethodName := ⟨R_Pn, "triangle", "(II)I"⟩
def w_Pn_triangle : List Cond := .code y_Pn_triangle b_Pn_triangle 3 (some .int) :: TT
def rm_Pn_triangle : Room := { frames := 6, cells := 0, slots := 0, locals := 132 }
theorem gd_Pn_triangle {h : Cond} : GoodIn (h :: TT) w_Pn_triangle := gd_of wd_665
theorem dd_Pn_triangle : y_Pn_triangle.cls ≠ "java/lang/invoke/MethodHandle" ∧ y_Pn_triangle.cls ≠ "java/lang/invoke/VarHandle" ∧ (parseMethodDescriptor y_Pn_triangle.desc).map (fun d => d.parameters.length) = some 2 := ⟨by decide +kernel, by decide +kernel, by decide +kernel⟩
abbrev b_Pn_checkNumber : ByteArray := prog_1_method_16_code
def y_Pn_checkNumber : MethodName := ⟨R_Pn, "checkNumber", "(I)V"⟩
def w_Pn_checkNumber : List Cond := .code y_Pn_checkNumber b_Pn_checkNumber 2 none :: TT
def rm_Pn_checkNumber : Room := { frames := 0, cells := 0, slots := 0, locals := 0 }
theorem gd_Pn_checkNumber {h : Cond} : GoodIn (h :: TT) w_Pn_checkNumber := gd_of wd_723
theorem dd_Pn_checkNumber : y_Pn_checkNumber.cls ≠ "java/lang/invoke/MethodHandle" ∧ y_Pn_checkNumber.cls ≠ "java/lang/invoke/VarHandle" ∧ (parseMethodDescriptor y_Pn_checkNumber.desc).map (fun d => d.parameters.length) = some 1 := ⟨by decide +kernel, by decide +kernel, by decide +kernel⟩
abbrev b_Nt_leftOf : ByteArray := prog_2_method_24_code
def y_Nt_leftOf : MethodName := ⟨R_Nt, "leftOf", "(I)I"⟩
def w_Nt_leftOf : List Cond := .code y_Nt_leftOf b_Nt_leftOf 2 (some .int) :: TT
def rm_Nt_leftOf : Room := { frames := 1, cells := 0, slots := 0, locals := 23 }
theorem gd_Nt_leftOf {h : Cond} : GoodIn (h :: TT) w_Nt_leftOf := gd_of wd_387
theorem dd_Nt_leftOf : y_Nt_leftOf.cls ≠ "java/lang/invoke/MethodHandle" ∧ y_Nt_leftOf.cls ≠ "java/lang/invoke/VarHandle" ∧ (parseMethodDescriptor y_Nt_leftOf.desc).map (fun d => d.parameters.length) = some 1 := ⟨by decide +kernel, by decide +kernel, by decide +kernel⟩
abbrev b_Nt_degree : ByteArray := prog_2_method_25_code
def y_Nt_degree : MethodName := ⟨R_Nt, "degree", "(I)I"⟩
def w_Nt_degree : List Cond := .code y_Nt_degree b_Nt_degree 6 (some .int) :: TT
def rm_Nt_degree : Room := { frames := 2, cells := 0, slots := 0, locals := 44 }
theorem gd_Nt_degree {h : Cond} : GoodIn (h :: TT) w_Nt_degree := gd_of wd_732
theorem dd_Nt_degree : y_Nt_degree.cls ≠ "java/lang/invoke/MethodHandle" ∧ y_Nt_degree.cls ≠ "java/lang/invoke/VarHandle" ∧ (parseMethodDescriptor y_Nt_degree.desc).map (fun d => d.parameters.length) = some 1 := ⟨by decide +kernel, by decide +kernel, by decide +kernel⟩
abbrev b_Pt_isBelow : ByteArray := prog_4_method_9_code
def y_Pt_isBelow : MethodName := ⟨R_Pt, "isBelow", "(III)Z"⟩
def w_Pt_isBelow : List Cond := .code y_Pt_isBelow b_Pt_isBelow 4 (some .boolean) :: TT
def rm_Pt_isBelow : Room := { frames := 1, cells := 0, slots := 0, locals := 23 }
theorem gd_Pt_isBelow {h : Cond} : GoodIn (h :: TT) w_Pt_isBelow := gd_of wd_355
theorem dd_Pt_isBelow : y_Pt_isBelow.cls ≠ "java/lang/invoke/MethodHandle" ∧ y_Pt_isBelow.cls ≠ "java/lang/invoke/VarHandle" ∧ (parseMethodDescriptor y_Pt_isBelow.desc).map (fun d => d.parameters.length) = some 3 := ⟨by decide +kernel, by decide +kernel, by decide +kernel⟩
abbrev b_Pt_greatestBelow : ByteArray := prog_4_method_14_code
def y_Pt_greatestBelow : MethodName := ⟨R_Pt, "greatestBelow", "(II)I"⟩
def w_Pt_greatestBelow : List Cond := .code y_Pt_greatestBelow b_Pt_greatestBelow 5 (some .int) :: TT
def rm_Pt_greatestBelow : Room := { frames := 2, cells := 0, slots := 0, locals := 46 }
theorem gd_Pt_greatestBelow {h : Cond} : GoodIn (h :: TT) w_Pt_greatestBelow := gd_of wd_351
theorem dd_Pt_greatestBelow : y_Pt_greatestBelow.cls ≠ "java/lang/invoke/MethodHandle" ∧ y_Pt_greatestBelow.cls ≠ "java/lang/invoke/VarHandle" ∧ (parseMethodDescriptor y_Pt_greatestBelow.desc).map (fun d => d.parameters.length) = some 2 := ⟨by decide +kernel, by decide +kernel, by decide +kernel⟩
abbrev b_Pt_isAbove : ByteArray := prog_4_method_10_code
def y_Pt_isAbove : MethodName := ⟨R_Pt, "isAbove", "(III)Z"⟩
def w_Pt_isAbove : List Cond := .code y_Pt_isAbove b_Pt_isAbove 4 (some .boolean) :: TT
def rm_Pt_isAbove : Room := { frames := 1, cells := 0, slots := 0, locals := 23 }
theorem gd_Pt_isAbove {h : Cond} : GoodIn (h :: TT) w_Pt_isAbove := gd_of wd_338
theorem dd_Pt_isAbove : y_Pt_isAbove.cls ≠ "java/lang/invoke/MethodHandle" ∧ y_Pt_isAbove.cls ≠ "java/lang/invoke/VarHandle" ∧ (parseMethodDescriptor y_Pt_isAbove.desc).map (fun d => d.parameters.length) = some 3 := ⟨by decide +kernel, by decide +kernel, by decide +kernel⟩
abbrev b_Pt_leastAbove : ByteArray := prog_4_method_13_code
def y_Pt_leastAbove : MethodName := ⟨R_Pt, "leastAbove", "(II)I"⟩
def w_Pt_leastAbove : List Cond := .code y_Pt_leastAbove b_Pt_leastAbove 5 (some .int) :: TT
def rm_Pt_leastAbove : Room := { frames := 2, cells := 0, slots := 0, locals := 46 }
theorem gd_Pt_leastAbove {h : Cond} : GoodIn (h :: TT) w_Pt_leastAbove := gd_of wd_334
theorem dd_Pt_leastAbove : y_Pt_leastAbove.cls ≠ "java/lang/invoke/MethodHandle" ∧ y_Pt_leastAbove.cls ≠ "java/lang/invoke/VarHandle" ∧ (parseMethodDescriptor y_Pt_leastAbove.desc).map (fun d => d.parameters.length) = some 2 := ⟨by decide +kernel, by decide +kernel, by decide +kernel⟩
abbrev b_Pn_neighbourCount : ByteArray := prog_1_method_22_code
def y_Pn_neighbourCount : MethodName := ⟨R_Pn, "neighbourCount", "(I)I"⟩
def w_Pn_neighbourCount : List Cond := .code y_Pn_neighbourCount b_Pn_neighbourCount 3 (some .int) :: TT
def rm_Pn_neighbourCount : Room := { frames := 3, cells := 0, slots := 0, locals := 70 }
theorem gd_Pn_neighbourCount {h : Cond} : GoodIn (h :: TT) w_Pn_neighbourCount := gd_of wd_728
theorem dd_Pn_neighbourCount : y_Pn_neighbourCount.cls ≠ "java/lang/invoke/MethodHandle" ∧ y_Pn_neighbourCount.cls ≠ "java/lang/invoke/VarHandle" ∧ (parseMethodDescriptor y_Pn_neighbourCount.desc).map (fun d => d.parameters.length) = some 1 := ⟨by decide +kernel, by decide +kernel, by decide +kernel⟩
abbrev b_Pn_neighbours : ByteArray := prog_1_method_6_code
def y_Pn_neighbours : MethodName := ⟨R_Pn, "neighbours", "(I)I"⟩
def w_Pn_neighbours : List Cond := .code y_Pn_neighbours b_Pn_neighbours 2 (some .int) :: TT
def rm_Pn_neighbours : Room := { frames := 4, cells := 0, slots := 0, locals := 92 }
theorem gd_Pn_neighbours {h : Cond} : GoodIn (h :: TT) w_Pn_neighbours := gd_of wd_719
theorem dd_Pn_neighbours : y_Pn_neighbours.cls ≠ "java/lang/invoke/MethodHandle" ∧ y_Pn_neighbours.cls ≠ "java/lang/invoke/VarHandle" ∧ (parseMethodDescriptor y_Pn_neighbours.desc).map (fun d => d.parameters.length) = some 1 := ⟨by decide +kernel, by decide +kernel, by decide +kernel⟩
abbrev b_Pn_neighbourOnLine : ByteArray := prog_1_method_23_code
def y_Pn_neighbourOnLine : MethodName := ⟨R_Pn, "neighbourOnLine", "(II)I"⟩
def w_Pn_neighbourOnLine : List Cond := .code y_Pn_neighbourOnLine b_Pn_neighbourOnLine 5 (some .int) :: TT
def rm_Pn_neighbourOnLine : Room := { frames := 3, cells := 0, slots := 0, locals := 70 }
theorem gd_Pn_neighbourOnLine {h : Cond} : GoodIn (h :: TT) w_Pn_neighbourOnLine := gd_of wd_746
theorem dd_Pn_neighbourOnLine : y_Pn_neighbourOnLine.cls ≠ "java/lang/invoke/MethodHandle" ∧ y_Pn_neighbourOnLine.cls ≠ "java/lang/invoke/VarHandle" ∧ (parseMethodDescriptor y_Pn_neighbourOnLine.desc).map (fun d => d.parameters.length) = some 2 := ⟨by decide +kernel, by decide +kernel, by decide +kernel⟩
abbrev b_Nt_lowestFrom : ByteArray := prog_2_method_27_code
def y_Nt_lowestFrom : MethodName := ⟨R_Nt, "lowestFrom", "(I)I"⟩
def w_Nt_lowestFrom : List Cond := .code y_Nt_lowestFrom b_Nt_lowestFrom 6 (some .int) :: TT
def rm_Nt_lowestFrom : Room := { frames := 2, cells := 0, slots := 0, locals := 44 }
theorem gd_Nt_lowestFrom {h : Cond} : GoodIn (h :: TT) w_Nt_lowestFrom := gd_of wd_754
theorem dd_Nt_lowestFrom : y_Nt_lowestFrom.cls ≠ "java/lang/invoke/MethodHandle" ∧ y_Nt_lowestFrom.cls ≠ "java/lang/invoke/VarHandle" ∧ (parseMethodDescriptor y_Nt_lowestFrom.desc).map (fun d => d.parameters.length) = some 1 := ⟨by decide +kernel, by decide +kernel, by decide +kernel⟩
abbrev b_Nt_leftRound : ByteArray := prog_2_method_26_code
def y_Nt_leftRound : MethodName := ⟨R_Nt, "leftRound", "(II)I"⟩
def w_Nt_leftRound : List Cond := .code y_Nt_leftRound b_Nt_leftRound 6 (some .int) :: TT
def rm_Nt_leftRound : Room := { frames := 3, cells := 0, slots := 0, locals := 69 }
theorem gd_Nt_leftRound {h : Cond} : GoodIn (h :: TT) w_Nt_leftRound := gd_of wd_750
theorem dd_Nt_leftRound : y_Nt_leftRound.cls ≠ "java/lang/invoke/MethodHandle" ∧ y_Nt_leftRound.cls ≠ "java/lang/invoke/VarHandle" ∧ (parseMethodDescriptor y_Nt_leftRound.desc).map (fun d => d.parameters.length) = some 2 := ⟨by decide +kernel, by decide +kernel, by decide +kernel⟩
abbrev b_Pn_neighbour : ByteArray := prog_1_method_7_code
def y_Pn_neighbour : MethodName := ⟨R_Pn, "neighbour", "(II)I"⟩
def w_Pn_neighbour : List Cond := .code y_Pn_neighbour b_Pn_neighbour 3 (some .int) :: TT
def rm_Pn_neighbour : Room := { frames := 4, cells := 0, slots := 0, locals := 94 }
theorem gd_Pn_neighbour {h : Cond} : GoodIn (h :: TT) w_Pn_neighbour := gd_of wd_741
theorem dd_Pn_neighbour : y_Pn_neighbour.cls ≠ "java/lang/invoke/MethodHandle" ∧ y_Pn_neighbour.cls ≠ "java/lang/invoke/VarHandle" ∧ (parseMethodDescriptor y_Pn_neighbour.desc).map (fun d => d.parameters.length) = some 2 := ⟨by decide +kernel, by decide +kernel, by decide +kernel⟩
abbrev b_Ol_put : ByteArray := prog_3_method_10_code
def y_Ol_put : MethodName := ⟨R_Ol, "put", "(I)V"⟩
def w_Ol_put : List Cond := .code y_Ol_put b_Ol_put 2 none :: TT
def rm_Ol_put : Room := { frames := 1, cells := 0, slots := 0, locals := 24 }
theorem gd_Ol_put {h : Cond} : GoodIn (h :: TT) w_Ol_put := gd_of wd_359
theorem dd_Ol_put : y_Ol_put.cls ≠ "java/lang/invoke/MethodHandle" ∧ y_Ol_put.cls ≠ "java/lang/invoke/VarHandle" ∧ (parseMethodDescriptor y_Ol_put.desc).map (fun d => d.parameters.length) = some 1 := ⟨by decide +kernel, by decide +kernel, by decide +kernel⟩
abbrev b_Ol_drawLine : ByteArray := prog_3_method_7_code
def y_Ol_drawLine : MethodName := ⟨R_Ol, "drawLine", "()V"⟩
def w_Ol_drawLine : List Cond := .code y_Ol_drawLine b_Ol_drawLine 3 none :: TT
def rm_Ol_drawLine : Room := { frames := 3, cells := 0, slots := 0, locals := 70 }
theorem gd_Ol_drawLine {h : Cond} : GoodIn (h :: TT) w_Ol_drawLine := gd_of wd_329
theorem dd_Ol_drawLine : y_Ol_drawLine.cls ≠ "java/lang/invoke/MethodHandle" ∧ y_Ol_drawLine.cls ≠ "java/lang/invoke/VarHandle" ∧ (parseMethodDescriptor y_Ol_drawLine.desc).map (fun d => d.parameters.length) = some 0 := ⟨by decide +kernel, by decide +kernel, by decide +kernel⟩
abbrev b_Nt_wayToGhost : ByteArray := prog_2_method_28_code
def y_Nt_wayToGhost : MethodName := ⟨R_Nt, "wayToGhost", "(I)I"⟩
def w_Nt_wayToGhost : List Cond := .code y_Nt_wayToGhost b_Nt_wayToGhost 4 (some .int) :: TT
def rm_Nt_wayToGhost : Room := { frames := 2, cells := 0, slots := 0, locals := 44 }
theorem gd_Nt_wayToGhost {h : Cond} : GoodIn (h :: TT) w_Nt_wayToGhost := gd_of wd_371
theorem dd_Nt_wayToGhost : y_Nt_wayToGhost.cls ≠ "java/lang/invoke/MethodHandle" ∧ y_Nt_wayToGhost.cls ≠ "java/lang/invoke/VarHandle" ∧ (parseMethodDescriptor y_Nt_wayToGhost.desc).map (fun d => d.parameters.length) = some 1 := ⟨by decide +kernel, by decide +kernel, by decide +kernel⟩
abbrev b_Nt_nextWayToGhost : ByteArray := prog_2_method_29_code
def y_Nt_nextWayToGhost : MethodName := ⟨R_Nt, "nextWayToGhost", "(I)I"⟩
def w_Nt_nextWayToGhost : List Cond := .code y_Nt_nextWayToGhost b_Nt_nextWayToGhost 2 (some .int) :: TT
def rm_Nt_nextWayToGhost : Room := { frames := 1, cells := 0, slots := 0, locals := 23 }
theorem gd_Nt_nextWayToGhost {h : Cond} : GoodIn (h :: TT) w_Nt_nextWayToGhost := gd_of wd_391
theorem dd_Nt_nextWayToGhost : y_Nt_nextWayToGhost.cls ≠ "java/lang/invoke/MethodHandle" ∧ y_Nt_nextWayToGhost.cls ≠ "java/lang/invoke/VarHandle" ∧ (parseMethodDescriptor y_Nt_nextWayToGhost.desc).map (fun d => d.parameters.length) = some 1 := ⟨by decide +kernel, by decide +kernel, by decide +kernel⟩
abbrev b_Ol_isCorner : ByteArray := prog_3_method_9_code
def y_Ol_isCorner : MethodName := ⟨R_Ol, "isCorner", "(III)Z"⟩
def w_Ol_isCorner : List Cond := .code y_Ol_isCorner b_Ol_isCorner 4 (some .boolean) :: TT
def rm_Ol_isCorner : Room := { frames := 2, cells := 0, slots := 0, locals := 55 }
theorem gd_Ol_isCorner {h : Cond} : GoodIn (h :: TT) w_Ol_isCorner := gd_of wd_399
theorem dd_Ol_isCorner : y_Ol_isCorner.cls ≠ "java/lang/invoke/MethodHandle" ∧ y_Ol_isCorner.cls ≠ "java/lang/invoke/VarHandle" ∧ (parseMethodDescriptor y_Ol_isCorner.desc).map (fun d => d.parameters.length) = some 3 := ⟨by decide +kernel, by decide +kernel, by decide +kernel⟩
abbrev b_Ol_drawRound : ByteArray := prog_3_method_8_code
def y_Ol_drawRound : MethodName := ⟨R_Ol, "drawRound", "()V"⟩
def w_Ol_drawRound : List Cond := .code y_Ol_drawRound b_Ol_drawRound 7 none :: TT
def rm_Ol_drawRound : Room := { frames := 3, cells := 0, slots := 0, locals := 78 }
theorem gd_Ol_drawRound {h : Cond} : GoodIn (h :: TT) w_Ol_drawRound := gd_of wd_367
theorem dd_Ol_drawRound : y_Ol_drawRound.cls ≠ "java/lang/invoke/MethodHandle" ∧ y_Ol_drawRound.cls ≠ "java/lang/invoke/VarHandle" ∧ (parseMethodDescriptor y_Ol_drawRound.desc).map (fun d => d.parameters.length) = some 0 := ⟨by decide +kernel, by decide +kernel, by decide +kernel⟩
abbrev b_Ol_draw : ByteArray := prog_3_method_6_code
def y_Ol_draw : MethodName := ⟨R_Ol, "draw", "()V"⟩
def w_Ol_draw : List Cond := .code y_Ol_draw b_Ol_draw 1 none :: TT
def rm_Ol_draw : Room := { frames := 4, cells := 0, slots := 0, locals := 104 }
theorem gd_Ol_draw {h : Cond} : GoodIn (h :: TT) w_Ol_draw := gd_of wd_321
theorem dd_Ol_draw : y_Ol_draw.cls ≠ "java/lang/invoke/MethodHandle" ∧ y_Ol_draw.cls ≠ "java/lang/invoke/VarHandle" ∧ (parseMethodDescriptor y_Ol_draw.desc).map (fun d => d.parameters.length) = some 0 := ⟨by decide +kernel, by decide +kernel, by decide +kernel⟩
abbrev b_Ol_many : ByteArray := prog_3_method_4_code
def y_Ol_many : MethodName := ⟨R_Ol, "many", "()I"⟩
def w_Ol_many : List Cond := .code y_Ol_many b_Ol_many 1 (some .int) :: TT
def rm_Ol_many : Room := { frames := 5, cells := 0, slots := 0, locals := 124 }
theorem gd_Ol_many {h : Cond} : GoodIn (h :: TT) w_Ol_many := gd_of wd_317
theorem dd_Ol_many : y_Ol_many.cls ≠ "java/lang/invoke/MethodHandle" ∧ y_Ol_many.cls ≠ "java/lang/invoke/VarHandle" ∧ (parseMethodDescriptor y_Ol_many.desc).map (fun d => d.parameters.length) = some 0 := ⟨by decide +kernel, by decide +kernel, by decide +kernel⟩
abbrev b_Ol_at : ByteArray := prog_3_method_5_code
def y_Ol_at : MethodName := ⟨R_Ol, "at", "(I)I"⟩
def w_Ol_at : List Cond := .code y_Ol_at b_Ol_at 2 (some .int) :: TT
def rm_Ol_at : Room := { frames := 5, cells := 0, slots := 0, locals := 124 }
theorem gd_Ol_at {h : Cond} : GoodIn (h :: TT) w_Ol_at := gd_of wd_766
theorem dd_Ol_at : y_Ol_at.cls ≠ "java/lang/invoke/MethodHandle" ∧ y_Ol_at.cls ≠ "java/lang/invoke/VarHandle" ∧ (parseMethodDescriptor y_Ol_at.desc).map (fun d => d.parameters.length) = some 1 := ⟨by decide +kernel, by decide +kernel, by decide +kernel⟩
abbrev b_Pn_corner : ByteArray := prog_1_method_8_code
def y_Pn_corner : MethodName := ⟨R_Pn, "corner", "(I)I"⟩
def w_Pn_corner : List Cond := .code y_Pn_corner b_Pn_corner 2 (some .int) :: TT
def rm_Pn_corner : Room := { frames := 6, cells := 0, slots := 0, locals := 145 }
theorem gd_Pn_corner {h : Cond} : GoodIn (h :: TT) w_Pn_corner := gd_of wd_761
theorem dd_Pn_corner : y_Pn_corner.cls ≠ "java/lang/invoke/MethodHandle" ∧ y_Pn_corner.cls ≠ "java/lang/invoke/VarHandle" ∧ (parseMethodDescriptor y_Pn_corner.desc).map (fun d => d.parameters.length) = some 1 := ⟨by decide +kernel, by decide +kernel, by decide +kernel⟩
abbrev b_Pn_foundBetween : ByteArray := prog_1_method_26_code
def y_Pn_foundBetween : MethodName := ⟨R_Pn, "foundBetween", "(II)I"⟩
def w_Pn_foundBetween : List Cond := .code y_Pn_foundBetween b_Pn_foundBetween 3 (some .int) :: TT
def rm_Pn_foundBetween : Room := { frames := 1, cells := 0, slots := 0, locals := 30 }
theorem gd_Pn_foundBetween {h : Cond} : GoodIn (h :: TT) w_Pn_foundBetween := gd_of wd_782
theorem dd_Pn_foundBetween : y_Pn_foundBetween.cls ≠ "java/lang/invoke/MethodHandle" ∧ y_Pn_foundBetween.cls ≠ "java/lang/invoke/VarHandle" ∧ (parseMethodDescriptor y_Pn_foundBetween.desc).map (fun d => d.parameters.length) = some 2 := ⟨by decide +kernel, by decide +kernel, by decide +kernel⟩
abbrev b_Pn_locateOnLine : ByteArray := prog_1_method_24_code
def y_Pn_locateOnLine : MethodName := ⟨R_Pn, "locateOnLine", "(II)I"⟩
def w_Pn_locateOnLine : List Cond := .code y_Pn_locateOnLine b_Pn_locateOnLine 5 (some .int) :: TT
def rm_Pn_locateOnLine : Room := { frames := 3, cells := 0, slots := 0, locals := 70 }
theorem gd_Pn_locateOnLine {h : Cond} : GoodIn (h :: TT) w_Pn_locateOnLine := gd_of wd_778
theorem dd_Pn_locateOnLine : y_Pn_locateOnLine.cls ≠ "java/lang/invoke/MethodHandle" ∧ y_Pn_locateOnLine.cls ≠ "java/lang/invoke/VarHandle" ∧ (parseMethodDescriptor y_Pn_locateOnLine.desc).map (fun d => d.parameters.length) = some 2 := ⟨by decide +kernel, by decide +kernel, by decide +kernel⟩
abbrev b_Pn_locateInNet : ByteArray := prog_1_method_25_code
def y_Pn_locateInNet : MethodName := ⟨R_Pn, "locateInNet", "(III)I"⟩
def w_Pn_locateInNet : List Cond := .code y_Pn_locateInNet b_Pn_locateInNet 7 (some .int) :: TT
def rm_Pn_locateInNet : Room := { frames := 4, cells := 0, slots := 0, locals := 106 }
theorem gd_Pn_locateInNet {h : Cond} : GoodIn (h :: TT) w_Pn_locateInNet := gd_of wd_786
theorem dd_Pn_locateInNet : y_Pn_locateInNet.cls ≠ "java/lang/invoke/MethodHandle" ∧ y_Pn_locateInNet.cls ≠ "java/lang/invoke/VarHandle" ∧ (parseMethodDescriptor y_Pn_locateInNet.desc).map (fun d => d.parameters.length) = some 3 := ⟨by decide +kernel, by decide +kernel, by decide +kernel⟩
abbrev b_Pn_locate : ByteArray := prog_1_method_9_code
def y_Pn_locate : MethodName := ⟨R_Pn, "locate", "(II)I"⟩
def w_Pn_locate : List Cond := .code y_Pn_locate b_Pn_locate 4 (some .int) :: TT
def rm_Pn_locate : Room := { frames := 5, cells := 0, slots := 0, locals := 132 }
theorem gd_Pn_locate {h : Cond} : GoodIn (h :: TT) w_Pn_locate := gd_of wd_774
theorem dd_Pn_locate : y_Pn_locate.cls ≠ "java/lang/invoke/MethodHandle" ∧ y_Pn_locate.cls ≠ "java/lang/invoke/VarHandle" ∧ (parseMethodDescriptor y_Pn_locate.desc).map (fun d => d.parameters.length) = some 2 := ⟨by decide +kernel, by decide +kernel, by decide +kernel⟩
abbrev b_Pn_located : ByteArray := prog_1_method_10_code
def y_Pn_located : MethodName := ⟨R_Pn, "located", "(I)I"⟩
def w_Pn_located : List Cond := .code y_Pn_located b_Pn_located 2 (some .int) :: TT
def rm_Pn_located : Room := { frames := 0, cells := 0, slots := 0, locals := 0 }
theorem gd_Pn_located {h : Cond} : GoodIn (h :: TT) w_Pn_located := gd_of wd_305
theorem dd_Pn_located : y_Pn_located.cls ≠ "java/lang/invoke/MethodHandle" ∧ y_Pn_located.cls ≠ "java/lang/invoke/VarHandle" ∧ (parseMethodDescriptor y_Pn_located.desc).map (fun d => d.parameters.length) = some 1 := ⟨by decide +kernel, by decide +kernel, by decide +kernel⟩
abbrev b_Pn_nearest : ByteArray := prog_1_method_11_code
def y_Pn_nearest : MethodName := ⟨R_Pn, "nearest", "(II)I"⟩
def w_Pn_nearest : List Cond := .code y_Pn_nearest b_Pn_nearest 3 (some .int) :: TT
def rm_Pn_nearest : Room := { frames := 3, cells := 0, slots := 0, locals := 79 }
theorem gd_Pn_nearest {h : Cond} : GoodIn (h :: TT) w_Pn_nearest := gd_of wd_797
theorem dd_Pn_nearest : y_Pn_nearest.cls ≠ "java/lang/invoke/MethodHandle" ∧ y_Pn_nearest.cls ≠ "java/lang/invoke/VarHandle" ∧ (parseMethodDescriptor y_Pn_nearest.desc).map (fun d => d.parameters.length) = some 2 := ⟨by decide +kernel, by decide +kernel, by decide +kernel⟩
abbrev b_Pn_closest : ByteArray := prog_1_method_12_code
def y_Pn_closest : MethodName := ⟨R_Pn, "closest", "(I)J"⟩
def w_Pn_closest : List Cond := .code y_Pn_closest b_Pn_closest 2 (some .long) :: TT
def rm_Pn_closest : Room := { frames := 0, cells := 0, slots := 0, locals := 0 }
theorem gd_Pn_closest {h : Cond} : GoodIn (h :: TT) w_Pn_closest := gd_of wd_805
theorem dd_Pn_closest : y_Pn_closest.cls ≠ "java/lang/invoke/MethodHandle" ∧ y_Pn_closest.cls ≠ "java/lang/invoke/VarHandle" ∧ (parseMethodDescriptor y_Pn_closest.desc).map (fun d => d.parameters.length) = some 1 := ⟨by decide +kernel, by decide +kernel, by decide +kernel⟩
abbrev b_Pn_point : ByteArray := prog_1_method_13_code
def y_Pn_point : MethodName := ⟨R_Pn, "point", "(II)I"⟩
def w_Pn_point : List Cond := .code y_Pn_point b_Pn_point 3 (some .int) :: TT
def rm_Pn_point : Room := { frames := 2, cells := 0, slots := 0, locals := 44 }
theorem gd_Pn_point {h : Cond} : GoodIn (h :: TT) w_Pn_point := gd_of wd_814
theorem dd_Pn_point : y_Pn_point.cls ≠ "java/lang/invoke/MethodHandle" ∧ y_Pn_point.cls ≠ "java/lang/invoke/VarHandle" ∧ (parseMethodDescriptor y_Pn_point.desc).map (fun d => d.parameters.length) = some 2 := ⟨by decide +kernel, by decide +kernel, by decide +kernel⟩
abbrev b_Pn_count : ByteArray := prog_1_method_14_code
def y_Pn_count : MethodName := ⟨R_Pn, "count", "(I)I"⟩
def w_Pn_count : List Cond := .code y_Pn_count b_Pn_count 2 (some .int) :: TT
def rm_Pn_count : Room := { frames := 6, cells := 0, slots := 0, locals := 144 }
theorem gd_Pn_count {h : Cond} : GoodIn (h :: TT) w_Pn_count := gd_of wd_309
theorem dd_Pn_count : y_Pn_count.cls ≠ "java/lang/invoke/MethodHandle" ∧ y_Pn_count.cls ≠ "java/lang/invoke/VarHandle" ∧ (parseMethodDescriptor y_Pn_count.desc).map (fun d => d.parameters.length) = some 1 := ⟨by decide +kernel, by decide +kernel, by decide +kernel⟩
abbrev b_Md_thrown : ByteArray := prog_9_method_2_code
def y_Md_thrown : MethodName := ⟨R_Md, "thrown", "()I"⟩
def w_Md_thrown : List Cond := .code y_Md_thrown b_Md_thrown 1 (some .int) :: TT
def rm_Md_thrown : Room := { frames := 0, cells := 0, slots := 0, locals := 0 }
theorem gd_Md_thrown {h : Cond} : GoodIn (h :: TT) w_Md_thrown := gd_of wd_904
theorem dd_Md_thrown : y_Md_thrown.cls ≠ "java/lang/invoke/MethodHandle" ∧ y_Md_thrown.cls ≠ "java/lang/invoke/VarHandle" ∧ (parseMethodDescriptor y_Md_thrown.desc).map (fun d => d.parameters.length) = some 0 := ⟨by decide +kernel, by decide +kernel, by decide +kernel⟩
abbrev b_Md_fail : ByteArray := prog_9_method_3_code
def y_Md_fail : MethodName := ⟨R_Md, "fail", "(I)I"⟩
def w_Md_fail : List Cond := .code y_Md_fail b_Md_fail 2 (some .int) :: TT
def rm_Md_fail : Room := { frames := 0, cells := 0, slots := 0, locals := 0 }
theorem gd_Md_fail {h : Cond} : GoodIn (h :: TT) w_Md_fail := gd_of wd_920
theorem dd_Md_fail : y_Md_fail.cls ≠ "java/lang/invoke/MethodHandle" ∧ y_Md_fail.cls ≠ "java/lang/invoke/VarHandle" ∧ (parseMethodDescriptor y_Md_fail.desc).map (fun d => d.parameters.length) = some 1 := ⟨by decide +kernel, by decide +kernel, by decide +kernel⟩
abbrev b_Md_within : ByteArray := prog_9_method_4_code
def y_Md_within : MethodName := ⟨R_Md, "within", "(III)Z"⟩
def w_Md_within : List Cond := .code y_Md_within b_Md_within 3 (some .boolean) :: TT
def rm_Md_within : Room := { frames := 0, cells := 0, slots := 0, locals := 0 }
theorem gd_Md_within {h : Cond} : GoodIn (h :: TT) w_Md_within := gd_of wd_916
theorem dd_Md_within : y_Md_within.cls ≠ "java/lang/invoke/MethodHandle" ∧ y_Md_within.cls ≠ "java/lang/invoke/VarHandle" ∧ (parseMethodDescriptor y_Md_within.desc).map (fun d => d.parameters.length) = some 3 := ⟨by decide +kernel, by decide +kernel, by decide +kernel⟩
abbrev b_Md_isFar : ByteArray := prog_9_method_5_code
def y_Md_isFar : MethodName := ⟨R_Md, "isFar", "(II)Z"⟩
def w_Md_isFar : List Cond := .code y_Md_isFar b_Md_isFar 2 (some .boolean) :: TT
def rm_Md_isFar : Room := { frames := 1, cells := 0, slots := 0, locals := 22 }
theorem gd_Md_isFar {h : Cond} : GoodIn (h :: TT) w_Md_isFar := gd_of wd_911
theorem dd_Md_isFar : y_Md_isFar.cls ≠ "java/lang/invoke/MethodHandle" ∧ y_Md_isFar.cls ≠ "java/lang/invoke/VarHandle" ∧ (parseMethodDescriptor y_Md_isFar.desc).map (fun d => d.parameters.length) = some 2 := ⟨by decide +kernel, by decide +kernel, by decide +kernel⟩
abbrev b_Md_sign : ByteArray := prog_9_method_6_code
def y_Md_sign : MethodName := ⟨R_Md, "sign", "(J)I"⟩
def w_Md_sign : List Cond := .code y_Md_sign b_Md_sign 2 (some .int) :: TT
def rm_Md_sign : Room := { frames := 0, cells := 0, slots := 0, locals := 0 }
theorem gd_Md_sign {h : Cond} : GoodIn (h :: TT) w_Md_sign := gd_of wd_974
theorem dd_Md_sign : y_Md_sign.cls ≠ "java/lang/invoke/MethodHandle" ∧ y_Md_sign.cls ≠ "java/lang/invoke/VarHandle" ∧ (parseMethodDescriptor y_Md_sign.desc).map (fun d => d.parameters.length) = some 1 := ⟨by decide +kernel, by decide +kernel, by decide +kernel⟩
abbrev b_Md_cross : ByteArray := prog_9_method_7_code
def y_Md_cross : MethodName := ⟨R_Md, "cross", "(JJJJ)J"⟩
def w_Md_cross : List Cond := .code y_Md_cross b_Md_cross 8 (some .long) :: TT
def rm_Md_cross : Room := { frames := 0, cells := 0, slots := 0, locals := 0 }
theorem gd_Md_cross {h : Cond} : GoodIn (h :: TT) w_Md_cross := gd_of wd_971
theorem dd_Md_cross : y_Md_cross.cls ≠ "java/lang/invoke/MethodHandle" ∧ y_Md_cross.cls ≠ "java/lang/invoke/VarHandle" ∧ (parseMethodDescriptor y_Md_cross.desc).map (fun d => d.parameters.length) = some 4 := ⟨by decide +kernel, by decide +kernel, by decide +kernel⟩
abbrev b_Md_side : ByteArray := prog_9_method_8_code
def y_Md_side : MethodName := ⟨R_Md, "side", "(IIII)I"⟩
def w_Md_side : List Cond := .code y_Md_side b_Md_side 5 (some .int) :: TT
def rm_Md_side : Room := { frames := 1, cells := 0, slots := 0, locals := 27 }
theorem gd_Md_side {h : Cond} : GoodIn (h :: TT) w_Md_side := gd_of wd_968
theorem dd_Md_side : y_Md_side.cls ≠ "java/lang/invoke/MethodHandle" ∧ y_Md_side.cls ≠ "java/lang/invoke/VarHandle" ∧ (parseMethodDescriptor y_Md_side.desc).map (fun d => d.parameters.length) = some 4 := ⟨by decide +kernel, by decide +kernel, by decide +kernel⟩
abbrev b_Md_sideOf : ByteArray := prog_9_method_9_code
def y_Md_sideOf : MethodName := ⟨R_Md, "sideOf", "(III)I"⟩
def w_Md_sideOf : List Cond := .code y_Md_sideOf b_Md_sideOf 4 (some .int) :: TT
def rm_Md_sideOf : Room := { frames := 2, cells := 0, slots := 0, locals := 51 }
theorem gd_Md_sideOf {h : Cond} : GoodIn (h :: TT) w_Md_sideOf := gd_of wd_964
theorem dd_Md_sideOf : y_Md_sideOf.cls ≠ "java/lang/invoke/MethodHandle" ∧ y_Md_sideOf.cls ≠ "java/lang/invoke/VarHandle" ∧ (parseMethodDescriptor y_Md_sideOf.desc).map (fun d => d.parameters.length) = some 3 := ⟨by decide +kernel, by decide +kernel, by decide +kernel⟩
abbrev b_Md_product : ByteArray := prog_9_method_10_code
def y_Md_product : MethodName := ⟨R_Md, "product", "(JJ)V"⟩
def w_Md_product : List Cond := .code y_Md_product b_Md_product 17 none :: TT
def rm_Md_product : Room := { frames := 0, cells := 0, slots := 0, locals := 0 }
theorem gd_Md_product {h : Cond} : GoodIn (h :: TT) w_Md_product := gd_of wd_998
theorem dd_Md_product : y_Md_product.cls ≠ "java/lang/invoke/MethodHandle" ∧ y_Md_product.cls ≠ "java/lang/invoke/VarHandle" ∧ (parseMethodDescriptor y_Md_product.desc).map (fun d => d.parameters.length) = some 2 := ⟨by decide +kernel, by decide +kernel, by decide +kernel⟩
abbrev b_Md_signOfSum : ByteArray := prog_9_method_11_code
def y_Md_signOfSum : MethodName := ⟨R_Md, "signOfSum", "()I"⟩
def w_Md_signOfSum : List Cond := .code y_Md_signOfSum b_Md_signOfSum 1 (some .int) :: TT
def rm_Md_signOfSum : Room := { frames := 1, cells := 0, slots := 0, locals := 21 }
theorem gd_Md_signOfSum {h : Cond} : GoodIn (h :: TT) w_Md_signOfSum := gd_of wd_1003
theorem dd_Md_signOfSum : y_Md_signOfSum.cls ≠ "java/lang/invoke/MethodHandle" ∧ y_Md_signOfSum.cls ≠ "java/lang/invoke/VarHandle" ∧ (parseMethodDescriptor y_Md_signOfSum.desc).map (fun d => d.parameters.length) = some 0 := ⟨by decide +kernel, by decide +kernel, by decide +kernel⟩
abbrev b_Md_part : ByteArray := prog_9_method_12_code
def y_Md_part : MethodName := ⟨R_Md, "part", "(IIII)V"⟩
def w_Md_part : List Cond := .code y_Md_part b_Md_part 9 none :: TT
def rm_Md_part : Room := { frames := 1, cells := 0, slots := 0, locals := 36 }
theorem gd_Md_part {h : Cond} : GoodIn (h :: TT) w_Md_part := gd_of wd_994
theorem dd_Md_part : y_Md_part.cls ≠ "java/lang/invoke/MethodHandle" ∧ y_Md_part.cls ≠ "java/lang/invoke/VarHandle" ∧ (parseMethodDescriptor y_Md_part.desc).map (fun d => d.parameters.length) = some 4 := ⟨by decide +kernel, by decide +kernel, by decide +kernel⟩
abbrev b_Md_inCircle : ByteArray := prog_9_method_13_code
def y_Md_inCircle : MethodName := ⟨R_Md, "inCircle", "(IIII)I"⟩
def w_Md_inCircle : List Cond := .code y_Md_inCircle b_Md_inCircle 5 (some .int) :: TT
def rm_Md_inCircle : Room := { frames := 2, cells := 0, slots := 0, locals := 64 }
theorem gd_Md_inCircle {h : Cond} : GoodIn (h :: TT) w_Md_inCircle := gd_of wd_990
theorem dd_Md_inCircle : y_Md_inCircle.cls ≠ "java/lang/invoke/MethodHandle" ∧ y_Md_inCircle.cls ≠ "java/lang/invoke/VarHandle" ∧ (parseMethodDescriptor y_Md_inCircle.desc).map (fun d => d.parameters.length) = some 4 := ⟨by decide +kernel, by decide +kernel, by decide +kernel⟩
abbrev b_Md_isLess : ByteArray := prog_9_method_14_code
def y_Md_isLess : MethodName := ⟨R_Md, "isLess", "(II)Z"⟩
def w_Md_isLess : List Cond := .code y_Md_isLess b_Md_isLess 3 (some .boolean) :: TT
def rm_Md_isLess : Room := { frames := 0, cells := 0, slots := 0, locals := 0 }
theorem gd_Md_isLess {h : Cond} : GoodIn (h :: TT) w_Md_isLess := gd_of wd_956
theorem dd_Md_isLess : y_Md_isLess.cls ≠ "java/lang/invoke/MethodHandle" ∧ y_Md_isLess.cls ≠ "java/lang/invoke/VarHandle" ∧ (parseMethodDescriptor y_Md_isLess.desc).map (fun d => d.parameters.length) = some 2 := ⟨by decide +kernel, by decide +kernel, by decide +kernel⟩
abbrev b_Md_apart : ByteArray := prog_9_method_15_code
def y_Md_apart : MethodName := ⟨R_Md, "apart", "(III)J"⟩
def w_Md_apart : List Cond := .code y_Md_apart b_Md_apart 8 (some .long) :: TT
def rm_Md_apart : Room := { frames := 0, cells := 0, slots := 0, locals := 0 }
theorem gd_Md_apart {h : Cond} : GoodIn (h :: TT) w_Md_apart := gd_of wd_978
theorem dd_Md_apart : y_Md_apart.cls ≠ "java/lang/invoke/MethodHandle" ∧ y_Md_apart.cls ≠ "java/lang/invoke/VarHandle" ∧ (parseMethodDescriptor y_Md_apart.desc).map (fun d => d.parameters.length) = some 3 := ⟨by decide +kernel, by decide +kernel, by decide +kernel⟩
abbrev b_Md_findPoint : ByteArray := prog_9_method_16_code
def y_Md_findPoint : MethodName := ⟨R_Md, "findPoint", "(II)I"⟩
def w_Md_findPoint : List Cond := .code y_Md_findPoint b_Md_findPoint 5 (some .int) :: TT
def rm_Md_findPoint : Room := { frames := 0, cells := 0, slots := 0, locals := 0 }
theorem gd_Md_findPoint {h : Cond} : GoodIn (h :: TT) w_Md_findPoint := gd_of wd_924
theorem dd_Md_findPoint : y_Md_findPoint.cls ≠ "java/lang/invoke/MethodHandle" ∧ y_Md_findPoint.cls ≠ "java/lang/invoke/VarHandle" ∧ (parseMethodDescriptor y_Md_findPoint.desc).map (fun d => d.parameters.length) = some 2 := ⟨by decide +kernel, by decide +kernel, by decide +kernel⟩
abbrev b_Md_forget : ByteArray := prog_9_method_17_code
def y_Md_forget : MethodName := ⟨R_Md, "forget", "()V"⟩
def w_Md_forget : List Cond := .code y_Md_forget b_Md_forget 2 none :: TT
def rm_Md_forget : Room := { frames := 0, cells := 0, slots := 0, locals := 0 }
theorem gd_Md_forget {h : Cond} : GoodIn (h :: TT) w_Md_forget := gd_of wd_928
theorem dd_Md_forget : y_Md_forget.cls ≠ "java/lang/invoke/MethodHandle" ∧ y_Md_forget.cls ≠ "java/lang/invoke/VarHandle" ∧ (parseMethodDescriptor y_Md_forget.desc).map (fun d => d.parameters.length) = some 0 := ⟨by decide +kernel, by decide +kernel, by decide +kernel⟩
abbrev b_Md_add : ByteArray := prog_9_method_18_code
def y_Md_add : MethodName := ⟨R_Md, "add", "(II)I"⟩
def w_Md_add : List Cond := .code y_Md_add b_Md_add 3 (some .int) :: TT
def rm_Md_add : Room := { frames := 2, cells := 0, slots := 0, locals := 43 }
theorem gd_Md_add {h : Cond} : GoodIn (h :: TT) w_Md_add := gd_of wd_908
theorem dd_Md_add : y_Md_add.cls ≠ "java/lang/invoke/MethodHandle" ∧ y_Md_add.cls ≠ "java/lang/invoke/VarHandle" ∧ (parseMethodDescriptor y_Md_add.desc).map (fun d => d.parameters.length) = some 2 := ⟨by decide +kernel, by decide +kernel, by decide +kernel⟩
abbrev b_Md_clear : ByteArray := prog_9_method_19_code
def y_Md_clear : MethodName := ⟨R_Md, "clear", "()I"⟩
def w_Md_clear : List Cond := .code y_Md_clear b_Md_clear 2 (some .int) :: TT
def rm_Md_clear : Room := { frames := 1, cells := 0, slots := 0, locals := 21 }
theorem gd_Md_clear {h : Cond} : GoodIn (h :: TT) w_Md_clear := gd_of wd_932
theorem dd_Md_clear : y_Md_clear.cls ≠ "java/lang/invoke/MethodHandle" ∧ y_Md_clear.cls ≠ "java/lang/invoke/VarHandle" ∧ (parseMethodDescriptor y_Md_clear.desc).map (fun d => d.parameters.length) = some 0 := ⟨by decide +kernel, by decide +kernel, by decide +kernel⟩
abbrev b_Md_find : ByteArray := prog_9_method_20_code
def y_Md_find : MethodName := ⟨R_Md, "find", "(II)I"⟩
def w_Md_find : List Cond := .code y_Md_find b_Md_find 3 (some .int) :: TT
def rm_Md_find : Room := { frames := 2, cells := 0, slots := 0, locals := 43 }
theorem gd_Md_find {h : Cond} : GoodIn (h :: TT) w_Md_find := gd_of wd_936
theorem dd_Md_find : y_Md_find.cls ≠ "java/lang/invoke/MethodHandle" ∧ y_Md_find.cls ≠ "java/lang/invoke/VarHandle" ∧ (parseMethodDescriptor y_Md_find.desc).map (fun d => d.parameters.length) = some 2 := ⟨by decide +kernel, by decide +kernel, by decide +kernel⟩
abbrev b_Md_least : ByteArray := prog_9_method_21_code
def y_Md_least : MethodName := ⟨R_Md, "least", "()I"⟩
def w_Md_least : List Cond := .code y_Md_least b_Md_least 3 (some .int) :: TT
def rm_Md_least : Room := { frames := 1, cells := 0, slots := 0, locals := 22 }
theorem gd_Md_least {h : Cond} : GoodIn (h :: TT) w_Md_least := gd_of wd_952
theorem dd_Md_least : y_Md_least.cls ≠ "java/lang/invoke/MethodHandle" ∧ y_Md_least.cls ≠ "java/lang/invoke/VarHandle" ∧ (parseMethodDescriptor y_Md_least.desc).map (fun d => d.parameters.length) = some 0 := ⟨by decide +kernel, by decide +kernel, by decide +kernel⟩
abbrev b_Md_cornerBehind : ByteArray := prog_9_method_22_code
def y_Md_cornerBehind : MethodName := ⟨R_Md, "cornerBehind", "(I)I"⟩
def w_Md_cornerBehind : List Cond := .code y_Md_cornerBehind b_Md_cornerBehind 5 (some .int) :: TT
def rm_Md_cornerBehind : Room := { frames := 3, cells := 0, slots := 0, locals := 74 }
theorem gd_Md_cornerBehind {h : Cond} : GoodIn (h :: TT) w_Md_cornerBehind := gd_of wd_960
theorem dd_Md_cornerBehind : y_Md_cornerBehind.cls ≠ "java/lang/invoke/MethodHandle" ∧ y_Md_cornerBehind.cls ≠ "java/lang/invoke/VarHandle" ∧ (parseMethodDescriptor y_Md_cornerBehind.desc).map (fun d => d.parameters.length) = some 1 := ⟨by decide +kernel, by decide +kernel, by decide +kernel⟩
abbrev b_Md_findCorners : ByteArray := prog_9_method_23_code
def y_Md_findCorners : MethodName := ⟨R_Md, "findCorners", "()V"⟩
def w_Md_findCorners : List Cond := .code y_Md_findCorners b_Md_findCorners 4 none :: TT
def rm_Md_findCorners : Room := { frames := 4, cells := 0, slots := 0, locals := 98 }
theorem gd_Md_findCorners {h : Cond} : GoodIn (h :: TT) w_Md_findCorners := gd_of wd_948
theorem dd_Md_findCorners : y_Md_findCorners.cls ≠ "java/lang/invoke/MethodHandle" ∧ y_Md_findCorners.cls ≠ "java/lang/invoke/VarHandle" ∧ (parseMethodDescriptor y_Md_findCorners.desc).map (fun d => d.parameters.length) = some 0 := ⟨by decide +kernel, by decide +kernel, by decide +kernel⟩
abbrev b_Md_isCelled : ByteArray := prog_9_method_24_code
def y_Md_isCelled : MethodName := ⟨R_Md, "isCelled", "(I)Z"⟩
def w_Md_isCelled : List Cond := .code y_Md_isCelled b_Md_isCelled 4 (some .boolean) :: TT
def rm_Md_isCelled : Room := { frames := 0, cells := 0, slots := 0, locals := 0 }
theorem gd_Md_isCelled {h : Cond} : GoodIn (h :: TT) w_Md_isCelled := gd_of wd_1011
theorem dd_Md_isCelled : y_Md_isCelled.cls ≠ "java/lang/invoke/MethodHandle" ∧ y_Md_isCelled.cls ≠ "java/lang/invoke/VarHandle" ∧ (parseMethodDescriptor y_Md_isCelled.desc).map (fun d => d.parameters.length) = some 1 := ⟨by decide +kernel, by decide +kernel, by decide +kernel⟩
abbrev b_Md_findCell : ByteArray := prog_9_method_25_code
def y_Md_findCell : MethodName := ⟨R_Md, "findCell", "(III)V"⟩
def w_Md_findCell : List Cond := .code y_Md_findCell b_Md_findCell 8 none :: TT
def rm_Md_findCell : Room := { frames := 3, cells := 0, slots := 0, locals := 88 }
theorem gd_Md_findCell {h : Cond} : GoodIn (h :: TT) w_Md_findCell := gd_of wd_1007
theorem dd_Md_findCell : y_Md_findCell.cls ≠ "java/lang/invoke/MethodHandle" ∧ y_Md_findCell.cls ≠ "java/lang/invoke/VarHandle" ∧ (parseMethodDescriptor y_Md_findCell.desc).map (fun d => d.parameters.length) = some 3 := ⟨by decide +kernel, by decide +kernel, by decide +kernel⟩
abbrev b_Md_isSide : ByteArray := prog_9_method_26_code
def y_Md_isSide : MethodName := ⟨R_Md, "isSide", "(II)Z"⟩
def w_Md_isSide : List Cond := .code y_Md_isSide b_Md_isSide 5 (some .boolean) :: TT
def rm_Md_isSide : Room := { frames := 0, cells := 0, slots := 0, locals := 0 }
theorem gd_Md_isSide {h : Cond} : GoodIn (h :: TT) w_Md_isSide := gd_of wd_986
theorem dd_Md_isSide : y_Md_isSide.cls ≠ "java/lang/invoke/MethodHandle" ∧ y_Md_isSide.cls ≠ "java/lang/invoke/VarHandle" ∧ (parseMethodDescriptor y_Md_isSide.desc).map (fun d => d.parameters.length) = some 2 := ⟨by decide +kernel, by decide +kernel, by decide +kernel⟩
abbrev b_Md_tell : ByteArray := prog_9_method_27_code
def y_Md_tell : MethodName := ⟨R_Md, "tell", "(III)V"⟩
def w_Md_tell : List Cond := .code y_Md_tell b_Md_tell 6 none :: TT
def rm_Md_tell : Room := { frames := 0, cells := 0, slots := 0, locals := 0 }
theorem gd_Md_tell {h : Cond} : GoodIn (h :: TT) w_Md_tell := gd_of wd_1015
theorem dd_Md_tell : y_Md_tell.cls ≠ "java/lang/invoke/MethodHandle" ∧ y_Md_tell.cls ≠ "java/lang/invoke/VarHandle" ∧ (parseMethodDescriptor y_Md_tell.desc).map (fun d => d.parameters.length) = some 3 := ⟨by decide +kernel, by decide +kernel, by decide +kernel⟩
abbrev b_Md_look : ByteArray := prog_9_method_28_code
def y_Md_look : MethodName := ⟨R_Md, "look", "(II)V"⟩
def w_Md_look : List Cond := .code y_Md_look b_Md_look 5 none :: TT
def rm_Md_look : Room := { frames := 4, cells := 0, slots := 0, locals := 115 }
theorem gd_Md_look {h : Cond} : GoodIn (h :: TT) w_Md_look := gd_of wd_982
theorem dd_Md_look : y_Md_look.cls ≠ "java/lang/invoke/MethodHandle" ∧ y_Md_look.cls ≠ "java/lang/invoke/VarHandle" ∧ (parseMethodDescriptor y_Md_look.desc).map (fun d => d.parameters.length) = some 2 := ⟨by decide +kernel, by decide +kernel, by decide +kernel⟩
abbrev b_Md_isBefore : ByteArray := prog_9_method_29_code
def y_Md_isBefore : MethodName := ⟨R_Md, "isBefore", "(II)Z"⟩
def w_Md_isBefore : List Cond := .code y_Md_isBefore b_Md_isBefore 3 (some .boolean) :: TT
def rm_Md_isBefore : Room := { frames := 0, cells := 0, slots := 0, locals := 0 }
theorem gd_Md_isBefore {h : Cond} : GoodIn (h :: TT) w_Md_isBefore := gd_of wd_1023
theorem dd_Md_isBefore : y_Md_isBefore.cls ≠ "java/lang/invoke/MethodHandle" ∧ y_Md_isBefore.cls ≠ "java/lang/invoke/VarHandle" ∧ (parseMethodDescriptor y_Md_isBefore.desc).map (fun d => d.parameters.length) = some 2 := ⟨by decide +kernel, by decide +kernel, by decide +kernel⟩
abbrev b_Md_swap : ByteArray := prog_9_method_30_code
def y_Md_swap : MethodName := ⟨R_Md, "swap", "(I)V"⟩
def w_Md_swap : List Cond := .code y_Md_swap b_Md_swap 5 none :: TT
def rm_Md_swap : Room := { frames := 0, cells := 0, slots := 0, locals := 0 }
theorem gd_Md_swap {h : Cond} : GoodIn (h :: TT) w_Md_swap := gd_of wd_1027
theorem dd_Md_swap : y_Md_swap.cls ≠ "java/lang/invoke/MethodHandle" ∧ y_Md_swap.cls ≠ "java/lang/invoke/VarHandle" ∧ (parseMethodDescriptor y_Md_swap.desc).map (fun d => d.parameters.length) = some 1 := ⟨by decide +kernel, by decide +kernel, by decide +kernel⟩
abbrev b_Md_sort : ByteArray := prog_9_method_31_code
def y_Md_sort : MethodName := ⟨R_Md, "sort", "()V"⟩
def w_Md_sort : List Cond := .code y_Md_sort b_Md_sort 3 none :: TT
def rm_Md_sort : Room := { frames := 1, cells := 0, slots := 0, locals := 24 }
theorem gd_Md_sort {h : Cond} : GoodIn (h :: TT) w_Md_sort := gd_of wd_1019
theorem dd_Md_sort : y_Md_sort.cls ≠ "java/lang/invoke/MethodHandle" ∧ y_Md_sort.cls ≠ "java/lang/invoke/VarHandle" ∧ (parseMethodDescriptor y_Md_sort.desc).map (fun d => d.parameters.length) = some 0 := ⟨by decide +kernel, by decide +kernel, by decide +kernel⟩
abbrev b_Md_know : ByteArray := prog_9_method_32_code
def y_Md_know : MethodName := ⟨R_Md, "know", "()V"⟩
def w_Md_know : List Cond := .code y_Md_know b_Md_know 4 none :: TT
def rm_Md_know : Room := { frames := 5, cells := 0, slots := 0, locals := 139 }
theorem gd_Md_know {h : Cond} : GoodIn (h :: TT) w_Md_know := gd_of wd_944
theorem dd_Md_know : y_Md_know.cls ≠ "java/lang/invoke/MethodHandle" ∧ y_Md_know.cls ≠ "java/lang/invoke/VarHandle" ∧ (parseMethodDescriptor y_Md_know.desc).map (fun d => d.parameters.length) = some 0 := ⟨by decide +kernel, by decide +kernel, by decide +kernel⟩
abbrev b_Md_triangle : ByteArray := prog_9_method_33_code
def y_Md_triangle : MethodName := ⟨R_Md, "triangle", "(II)I"⟩
def w_Md_triangle : List Cond := .code y_Md_triangle b_Md_triangle 3 (some .int) :: TT
def rm_Md_triangle : Room := { frames := 6, cells := 0, slots := 0, locals := 162 }
theorem gd_Md_triangle {h : Cond} : GoodIn (h :: TT) w_Md_triangle := gd_of wd_940
theorem dd_Md_triangle : y_Md_triangle.cls ≠ "java/lang/invoke/MethodHandle" ∧ y_Md_triangle.cls ≠ "java/lang/invoke/VarHandle" ∧ (parseMethodDescriptor y_Md_triangle.desc).map (fun d => d.parameters.length) = some 2 := ⟨by decide +kernel, by decide +kernel, by decide +kernel⟩
abbrev b_Md_corner : ByteArray := prog_9_method_34_code
def y_Md_corner : MethodName := ⟨R_Md, "corner", "(I)I"⟩
def w_Md_corner : List Cond := .code y_Md_corner b_Md_corner 2 (some .int) :: TT
def rm_Md_corner : Room := { frames := 6, cells := 0, slots := 0, locals := 162 }
theorem gd_Md_corner {h : Cond} : GoodIn (h :: TT) w_Md_corner := gd_of wd_1031
theorem dd_Md_corner : y_Md_corner.cls ≠ "java/lang/invoke/MethodHandle" ∧ y_Md_corner.cls ≠ "java/lang/invoke/VarHandle" ∧ (parseMethodDescriptor y_Md_corner.desc).map (fun d => d.parameters.length) = some 1 := ⟨by decide +kernel, by decide +kernel, by decide +kernel⟩
abbrev b_Md_isIn : ByteArray := prog_9_method_35_code
def y_Md_isIn : MethodName := ⟨R_Md, "isIn", "(II)Z"⟩
def w_Md_isIn : List Cond := .code y_Md_isIn b_Md_isIn 3 (some .boolean) :: TT
def rm_Md_isIn : Room := { frames := 0, cells := 0, slots := 0, locals := 0 }
theorem gd_Md_isIn {h : Cond} : GoodIn (h :: TT) w_Md_isIn := gd_of wd_1051
theorem dd_Md_isIn : y_Md_isIn.cls ≠ "java/lang/invoke/MethodHandle" ∧ y_Md_isIn.cls ≠ "java/lang/invoke/VarHandle" ∧ (parseMethodDescriptor y_Md_isIn.desc).map (fun d => d.parameters.length) = some 2 := ⟨by decide +kernel, by decide +kernel, by decide +kernel⟩
abbrev b_Md_isOn : ByteArray := prog_9_method_36_code
def y_Md_isOn : MethodName := ⟨R_Md, "isOn", "(IIII)Z"⟩
def w_Md_isOn : List Cond := .code y_Md_isOn b_Md_isOn 7 (some .boolean) :: TT
def rm_Md_isOn : Room := { frames := 2, cells := 0, slots := 0, locals := 51 }
theorem gd_Md_isOn {h : Cond} : GoodIn (h :: TT) w_Md_isOn := gd_of wd_1047
theorem dd_Md_isOn : y_Md_isOn.cls ≠ "java/lang/invoke/MethodHandle" ∧ y_Md_isOn.cls ≠ "java/lang/invoke/VarHandle" ∧ (parseMethodDescriptor y_Md_isOn.desc).map (fun d => d.parameters.length) = some 4 := ⟨by decide +kernel, by decide +kernel, by decide +kernel⟩
abbrev b_Md_areNeighbours : ByteArray := prog_9_method_37_code
def y_Md_areNeighbours : MethodName := ⟨R_Md, "areNeighbours", "(II)Z"⟩
def w_Md_areNeighbours : List Cond := .code y_Md_areNeighbours b_Md_areNeighbours 5 (some .boolean) :: TT
def rm_Md_areNeighbours : Room := { frames := 3, cells := 0, slots := 0, locals := 77 }
theorem gd_Md_areNeighbours {h : Cond} : GoodIn (h :: TT) w_Md_areNeighbours := gd_of wd_1043
theorem dd_Md_areNeighbours : y_Md_areNeighbours.cls ≠ "java/lang/invoke/MethodHandle" ∧ y_Md_areNeighbours.cls ≠ "java/lang/invoke/VarHandle" ∧ (parseMethodDescriptor y_Md_areNeighbours.desc).map (fun d => d.parameters.length) = some 2 := ⟨by decide +kernel, by decide +kernel, by decide +kernel⟩
abbrev b_Md_isSooner : ByteArray := prog_9_method_38_code
def y_Md_isSooner : MethodName := ⟨R_Md, "isSooner", "(IIII)Z"⟩
def w_Md_isSooner : List Cond := .code y_Md_isSooner b_Md_isSooner 19 (some .boolean) :: TT
def rm_Md_isSooner : Room := { frames := 1, cells := 0, slots := 0, locals := 27 }
theorem gd_Md_isSooner {h : Cond} : GoodIn (h :: TT) w_Md_isSooner := gd_of wd_1055
theorem dd_Md_isSooner : y_Md_isSooner.cls ≠ "java/lang/invoke/MethodHandle" ∧ y_Md_isSooner.cls ≠ "java/lang/invoke/VarHandle" ∧ (parseMethodDescriptor y_Md_isSooner.desc).map (fun d => d.parameters.length) = some 4 := ⟨by decide +kernel, by decide +kernel, by decide +kernel⟩
abbrev b_Md_findNeighbours : ByteArray := prog_9_method_39_code
def y_Md_findNeighbours : MethodName := ⟨R_Md, "findNeighbours", "(I)V"⟩
def w_Md_findNeighbours : List Cond := .code y_Md_findNeighbours b_Md_findNeighbours 5 none :: TT
def rm_Md_findNeighbours : Room := { frames := 6, cells := 0, slots := 0, locals := 162 }
theorem gd_Md_findNeighbours {h : Cond} : GoodIn (h :: TT) w_Md_findNeighbours := gd_of wd_1039
theorem dd_Md_findNeighbours : y_Md_findNeighbours.cls ≠ "java/lang/invoke/MethodHandle" ∧ y_Md_findNeighbours.cls ≠ "java/lang/invoke/VarHandle" ∧ (parseMethodDescriptor y_Md_findNeighbours.desc).map (fun d => d.parameters.length) = some 1 := ⟨by decide +kernel, by decide +kernel, by decide +kernel⟩
abbrev b_Md_neighbours : ByteArray := prog_9_method_40_code
def y_Md_neighbours : MethodName := ⟨R_Md, "neighbours", "(I)I"⟩
def w_Md_neighbours : List Cond := .code y_Md_neighbours b_Md_neighbours 2 (some .int) :: TT
def rm_Md_neighbours : Room := { frames := 7, cells := 0, slots := 0, locals := 186 }
theorem gd_Md_neighbours {h : Cond} : GoodIn (h :: TT) w_Md_neighbours := gd_of wd_1035
theorem dd_Md_neighbours : y_Md_neighbours.cls ≠ "java/lang/invoke/MethodHandle" ∧ y_Md_neighbours.cls ≠ "java/lang/invoke/VarHandle" ∧ (parseMethodDescriptor y_Md_neighbours.desc).map (fun d => d.parameters.length) = some 1 := ⟨by decide +kernel, by decide +kernel, by decide +kernel⟩
abbrev b_Md_neighbour : ByteArray := prog_9_method_41_code
def y_Md_neighbour : MethodName := ⟨R_Md, "neighbour", "(II)I"⟩
def w_Md_neighbour : List Cond := .code y_Md_neighbour b_Md_neighbour 3 (some .int) :: TT
def rm_Md_neighbour : Room := { frames := 7, cells := 0, slots := 0, locals := 186 }
theorem gd_Md_neighbour {h : Cond} : GoodIn (h :: TT) w_Md_neighbour := gd_of wd_1059
theorem dd_Md_neighbour : y_Md_neighbour.cls ≠ "java/lang/invoke/MethodHandle" ∧ y_Md_neighbour.cls ≠ "java/lang/invoke/VarHandle" ∧ (parseMethodDescriptor y_Md_neighbour.desc).map (fun d => d.parameters.length) = some 2 := ⟨by decide +kernel, by decide +kernel, by decide +kernel⟩
abbrev b_Md_found : ByteArray := prog_9_method_42_code
def y_Md_found : MethodName := ⟨R_Md, "found", "(IIII)I"⟩
def w_Md_found : List Cond := .code y_Md_found b_Md_found 5 (some .int) :: TT
def rm_Md_found : Room := { frames := 0, cells := 0, slots := 0, locals := 0 }
theorem gd_Md_found {h : Cond} : GoodIn (h :: TT) w_Md_found := gd_of wd_1067
theorem dd_Md_found : y_Md_found.cls ≠ "java/lang/invoke/MethodHandle" ∧ y_Md_found.cls ≠ "java/lang/invoke/VarHandle" ∧ (parseMethodDescriptor y_Md_found.desc).map (fun d => d.parameters.length) = some 4 := ⟨by decide +kernel, by decide +kernel, by decide +kernel⟩
abbrev b_Md_locate : ByteArray := prog_9_method_43_code
def y_Md_locate : MethodName := ⟨R_Md, "locate", "(II)I"⟩
def w_Md_locate : List Cond := .code y_Md_locate b_Md_locate 6 (some .int) :: TT
def rm_Md_locate : Room := { frames := 6, cells := 0, slots := 0, locals := 162 }
theorem gd_Md_locate {h : Cond} : GoodIn (h :: TT) w_Md_locate := gd_of wd_1063
theorem dd_Md_locate : y_Md_locate.cls ≠ "java/lang/invoke/MethodHandle" ∧ y_Md_locate.cls ≠ "java/lang/invoke/VarHandle" ∧ (parseMethodDescriptor y_Md_locate.desc).map (fun d => d.parameters.length) = some 2 := ⟨by decide +kernel, by decide +kernel, by decide +kernel⟩
abbrev b_Md_located : ByteArray := prog_9_method_44_code
def y_Md_located : MethodName := ⟨R_Md, "located", "(I)I"⟩
def w_Md_located : List Cond := .code y_Md_located b_Md_located 2 (some .int) :: TT
def rm_Md_located : Room := { frames := 1, cells := 0, slots := 0, locals := 22 }
theorem gd_Md_located {h : Cond} : GoodIn (h :: TT) w_Md_located := gd_of wd_1071
theorem dd_Md_located : y_Md_located.cls ≠ "java/lang/invoke/MethodHandle" ∧ y_Md_located.cls ≠ "java/lang/invoke/VarHandle" ∧ (parseMethodDescriptor y_Md_located.desc).map (fun d => d.parameters.length) = some 1 := ⟨by decide +kernel, by decide +kernel, by decide +kernel⟩
abbrev b_Md_nearest : ByteArray := prog_9_method_45_code
def y_Md_nearest : MethodName := ⟨R_Md, "nearest", "(II)I"⟩
def w_Md_nearest : List Cond := .code y_Md_nearest b_Md_nearest 5 (some .int) :: TT
def rm_Md_nearest : Room := { frames := 2, cells := 0, slots := 0, locals := 43 }
theorem gd_Md_nearest {h : Cond} : GoodIn (h :: TT) w_Md_nearest := gd_of wd_1075
theorem dd_Md_nearest : y_Md_nearest.cls ≠ "java/lang/invoke/MethodHandle" ∧ y_Md_nearest.cls ≠ "java/lang/invoke/VarHandle" ∧ (parseMethodDescriptor y_Md_nearest.desc).map (fun d => d.parameters.length) = some 2 := ⟨by decide +kernel, by decide +kernel, by decide +kernel⟩
abbrev b_Md_closest : ByteArray := prog_9_method_46_code
def y_Md_closest : MethodName := ⟨R_Md, "closest", "(I)J"⟩
def w_Md_closest : List Cond := .code y_Md_closest b_Md_closest 6 (some .long) :: TT
def rm_Md_closest : Room := { frames := 1, cells := 0, slots := 0, locals := 27 }
theorem gd_Md_closest {h : Cond} : GoodIn (h :: TT) w_Md_closest := gd_of wd_1079
theorem dd_Md_closest : y_Md_closest.cls ≠ "java/lang/invoke/MethodHandle" ∧ y_Md_closest.cls ≠ "java/lang/invoke/VarHandle" ∧ (parseMethodDescriptor y_Md_closest.desc).map (fun d => d.parameters.length) = some 1 := ⟨by decide +kernel, by decide +kernel, by decide +kernel⟩
abbrev b_Md_point : ByteArray := prog_9_method_47_code
def y_Md_point : MethodName := ⟨R_Md, "point", "(II)I"⟩
def w_Md_point : List Cond := .code y_Md_point b_Md_point 3 (some .int) :: TT
def rm_Md_point : Room := { frames := 1, cells := 0, slots := 0, locals := 22 }
theorem gd_Md_point {h : Cond} : GoodIn (h :: TT) w_Md_point := gd_of wd_1083
theorem dd_Md_point : y_Md_point.cls ≠ "java/lang/invoke/MethodHandle" ∧ y_Md_point.cls ≠ "java/lang/invoke/VarHandle" ∧ (parseMethodDescriptor y_Md_point.desc).map (fun d => d.parameters.length) = some 2 := ⟨by decide +kernel, by decide +kernel, by decide +kernel⟩
abbrev b_Md_count : ByteArray := prog_9_method_48_code
def y_Md_count : MethodName := ⟨R_Md, "count", "(I)I"⟩
def w_Md_count : List Cond := .code y_Md_count b_Md_count 2 (some .int) :: TT
def rm_Md_count : Room := { frames := 6, cells := 0, slots := 0, locals := 162 }
theorem gd_Md_count {h : Cond} : GoodIn (h :: TT) w_Md_count := gd_of wd_1087
theorem dd_Md_count : y_Md_count.cls ≠ "java/lang/invoke/MethodHandle" ∧ y_Md_count.cls ≠ "java/lang/invoke/VarHandle" ∧ (parseMethodDescriptor y_Md_count.desc).map (fun d => d.parameters.length) = some 1 := ⟨by decide +kernel, by decide +kernel, by decide +kernel⟩
abbrev b_Pn_init : ByteArray := prog_1_method_1_code
def y_Pn_init : MethodName := ⟨R_Pn, "<init>", "(I)V"⟩
def w_Pn_init : List Cond := .code y_Pn_init b_Pn_init 2 none :: TT
def rm_Pn_init : Room := { frames := 3, cells := 30, slots := 2362, locals := 73 }
theorem gd_Pn_init {h : Cond} : GoodIn (h :: TT) w_Pn_init := gd_of wd_84
theorem dd_Pn_init : y_Pn_init.cls ≠ "java/lang/invoke/MethodHandle" ∧ y_Pn_init.cls ≠ "java/lang/invoke/VarHandle" ∧ (parseMethodDescriptor y_Pn_init.desc).map (fun d => d.parameters.length) = some 1 := ⟨by decide +kernel, by decide +kernel, by decide +kernel⟩
abbrev b_Md_init : ByteArray := prog_9_method_1_code
def y_Md_init : MethodName := ⟨R_Md, "<init>", "(I)V"⟩
def w_Md_init : List Cond := .code y_Md_init b_Md_init 2 none :: TT
def rm_Md_init : Room := { frames := 1, cells := 11, slots := 23667, locals := 30 }
theorem gd_Md_init {h : Cond} : GoodIn (h :: TT) w_Md_init := gd_of wd_820
theorem dd_Md_init : y_Md_init.cls ≠ "java/lang/invoke/MethodHandle" ∧ y_Md_init.cls ≠ "java/lang/invoke/VarHandle" ∧ (parseMethodDescriptor y_Md_init.desc).map (fun d => d.parameters.length) = some 1 := ⟨by decide +kernel, by decide +kernel, by decide +kernel⟩
abbrev b_Nt_init : ByteArray := prog_2_method_1_code
def y_Nt_init : MethodName := ⟨R_Nt, "<init>", "(LPlaneNet$Points;)V"⟩
def w_Nt_init : List Cond := .code y_Nt_init b_Nt_init 2 none :: TT
def rm_Nt_init : Room := { frames := 2, cells := 12, slots := 1164, locals := 51 }
theorem gd_Nt_init {h : Cond} : GoodIn (h :: TT) w_Nt_init := gd_of wd_154
theorem dd_Nt_init : y_Nt_init.cls ≠ "java/lang/invoke/MethodHandle" ∧ y_Nt_init.cls ≠ "java/lang/invoke/VarHandle" ∧ (parseMethodDescriptor y_Nt_init.desc).map (fun d => d.parameters.length) = some 1 := ⟨by decide +kernel, by decide +kernel, by decide +kernel⟩
abbrev b_Ol_init : ByteArray := prog_3_method_1_code
def y_Ol_init : MethodName := ⟨R_Ol, "<init>", "(LPlaneNet$Points;LPlaneNet$Net;)V"⟩
def w_Ol_init : List Cond := .code y_Ol_init b_Ol_init 3 none :: TT
def rm_Ol_init : Room := { frames := 2, cells := 2, slots := 194, locals := 51 }
theorem gd_Ol_init {h : Cond} : GoodIn (h :: TT) w_Ol_init := gd_of wd_229
theorem dd_Ol_init : y_Ol_init.cls ≠ "java/lang/invoke/MethodHandle" ∧ y_Ol_init.cls ≠ "java/lang/invoke/VarHandle" ∧ (parseMethodDescriptor y_Ol_init.desc).map (fun d => d.parameters.length) = some 2 := ⟨by decide +kernel, by decide +kernel, by decide +kernel⟩
abbrev b_Pt_init : ByteArray := prog_4_method_1_code
def y_Pt_init : MethodName := ⟨R_Pt, "<init>", "(I)V"⟩
def w_Pt_init : List Cond := .code y_Pt_init b_Pt_init 2 none :: TT
def rm_Pt_init : Room := { frames := 2, cells := 5, slots := 390, locals := 51 }
theorem gd_Pt_init {h : Cond} : GoodIn (h :: TT) w_Pt_init := gd_of wd_98
theorem dd_Pt_init : y_Pt_init.cls ≠ "java/lang/invoke/MethodHandle" ∧ y_Pt_init.cls ≠ "java/lang/invoke/VarHandle" ∧ (parseMethodDescriptor y_Pt_init.desc).map (fun d => d.parameters.length) = some 1 := ⟨by decide +kernel, by decide +kernel, by decide +kernel⟩
abbrev b_Rl_init : ByteArray := prog_5_method_1_code
def y_Rl_init : MethodName := ⟨R_Rl, "<init>", "(LPlaneNet$Points;LPlaneNet$Net;)V"⟩
def w_Rl_init : List Cond := .code y_Rl_init b_Rl_init 3 none :: TT
def rm_Rl_init : Room := { frames := 2, cells := 6, slots := 582, locals := 51 }
theorem gd_Rl_init {h : Cond} : GoodIn (h :: TT) w_Rl_init := gd_of wd_202
theorem dd_Rl_init : y_Rl_init.cls ≠ "java/lang/invoke/MethodHandle" ∧ y_Rl_init.cls ≠ "java/lang/invoke/VarHandle" ∧ (parseMethodDescriptor y_Rl_init.desc).map (fun d => d.parameters.length) = some 2 := ⟨by decide +kernel, by decide +kernel, by decide +kernel⟩
abbrev b_Rw_init : ByteArray := prog_6_method_1_code
def y_Rw_init : MethodName := ⟨R_Rw, "<init>", "(I)V"⟩
def w_Rw_init : List Cond := .code y_Rw_init b_Rw_init 2 none :: TT
def rm_Rw_init : Room := { frames := 1, cells := 1, slots := 192, locals := 30 }
theorem gd_Rw_init {h : Cond} : GoodIn (h :: TT) w_Rw_init := gd_of wd_104
theorem dd_Rw_init : y_Rw_init.cls ≠ "java/lang/invoke/MethodHandle" ∧ y_Rw_init.cls ≠ "java/lang/invoke/VarHandle" ∧ (parseMethodDescriptor y_Rw_init.desc).map (fun d => d.parameters.length) = some 1 := ⟨by decide +kernel, by decide +kernel, by decide +kernel⟩
abbrev b_Wd_init : ByteArray := prog_7_method_1_code
def y_Wd_init : MethodName := ⟨R_Wd, "<init>", "()V"⟩
def w_Wd_init : List Cond := .code y_Wd_init b_Wd_init 1 none :: TT
def rm_Wd_init : Room := { frames := 1, cells := 0, slots := 0, locals := 30 }
theorem gd_Wd_init {h : Cond} : GoodIn (h :: TT) w_Wd_init := gd_of wd_119
theorem dd_Wd_init : y_Wd_init.cls ≠ "java/lang/invoke/MethodHandle" ∧ y_Wd_init.cls ≠ "java/lang/invoke/VarHandle" ∧ (parseMethodDescriptor y_Wd_init.desc).map (fun d => d.parameters.length) = some 0 := ⟨by decide +kernel, by decide +kernel, by decide +kernel⟩
