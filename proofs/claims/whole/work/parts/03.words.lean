def TC0 : u_T := fun k => match k with
  | 0 => ("ThrowFlow", "text", "LThrowFlow$Text;", true)
  | 1 => ("ThrowFlow", "flow", "LThrowFlow$Flow;", true)
  | _ => ("ThrowFlow", "machine", "LThrowFlow$Machine;", true)
def TC1 : u_T := fun k => match k with
  | 0 => ("ThrowFlow$Text", "kinds", "LThrowFlow$Kinds;", true)
  | 1 => ("ThrowFlow$Text", "bodies", "[LThrowFlow$Body;", true)
  | _ => ("ThrowFlow$Text", "count", "I", false)
def TC2 : u_T := fun k => match k with
  | 0 => ("ThrowFlow$Kinds", "members", "[I", true)
  | _ => ("ThrowFlow$Kinds", "count", "I", false)
def TC3 : u_T := fun k => match k with
  | 0 => ("ThrowFlow$Flow", "text", "LThrowFlow$Text;", true)
  | 1 => ("ThrowFlow$Flow", "stale", "Z", false)
  | 2 => ("ThrowFlow$Flow", "raised", "[I", true)
  | 3 => ("ThrowFlow$Flow", "lengths", "[I", true)
  | 4 => ("ThrowFlow$Flow", "passed", "[I", true)
  | 5 => ("ThrowFlow$Flow", "fresh", "[I", true)
  | _ => ("ThrowFlow$Flow", "coming", "[I", true)
def TC4 : u_T := fun k => match k with
  | 0 => ("ThrowFlow$Machine", "text", "LThrowFlow$Text;", true)
  | 1 => ("ThrowFlow$Machine", "methods", "[I", true)
  | 2 => ("ThrowFlow$Machine", "places", "[I", true)
  | 3 => ("ThrowFlow$Machine", "registers", "[I", true)
  | 4 => ("ThrowFlow$Machine", "caught", "[I", true)
  | 5 => ("ThrowFlow$Machine", "depth", "I", false)
  | 6 => ("ThrowFlow$Machine", "used", "I", false)
  | 7 => ("ThrowFlow$Machine", "given", "I", false)
  | _ => ("ThrowFlow$Machine", "cameOut", "I", false)
def TC5 : u_T := fun k => match k with
  | 0 => ("ThrowFlow$Body", "codes", "[I", true)
  | 1 => ("ThrowFlow$Body", "as", "[I", true)
  | 2 => ("ThrowFlow$Body", "bs", "[I", true)
  | 3 => ("ThrowFlow$Body", "size", "I", false)
  | 4 => ("ThrowFlow$Body", "firsts", "[I", true)
  | 5 => ("ThrowFlow$Body", "lasts", "[I", true)
  | 6 => ("ThrowFlow$Body", "caughtKinds", "[I", true)
  | 7 => ("ThrowFlow$Body", "targets", "[I", true)
  | _ => ("ThrowFlow$Body", "handlerCount", "I", false)
def TC6 : u_T := fun k => match k with
  | 0 => ("ThrowFlowModel", "thrown", "I", false)
  | 1 => ("ThrowFlowModel", "kinds", "I", false)
  | 2 => ("ThrowFlowModel", "parents", "[I", true)
  | 3 => ("ThrowFlowModel", "methods", "I", false)
  | 4 => ("ThrowFlowModel", "sizes", "[I", true)
  | 5 => ("ThrowFlowModel", "codes", "[I", true)
  | 6 => ("ThrowFlowModel", "firstNumbers", "[I", true)
  | 7 => ("ThrowFlowModel", "secondNumbers", "[I", true)
  | 8 => ("ThrowFlowModel", "handlers", "[I", true)
  | 9 => ("ThrowFlowModel", "firsts", "[I", true)
  | 10 => ("ThrowFlowModel", "lasts", "[I", true)
  | 11 => ("ThrowFlowModel", "handled", "[I", true)
  | 12 => ("ThrowFlowModel", "targets", "[I", true)
  | 13 => ("ThrowFlowModel", "stale", "Z", false)
  | 14 => ("ThrowFlowModel", "lengths", "[I", true)
  | 15 => ("ThrowFlowModel", "frames", "I", false)
  | 16 => ("ThrowFlowModel", "running", "[I", true)
  | 17 => ("ThrowFlowModel", "places", "[I", true)
  | 18 => ("ThrowFlowModel", "registers", "[I", true)
  | 19 => ("ThrowFlowModel", "caught", "[I", true)
  | 20 => ("ThrowFlowModel", "used", "I", false)
  | 21 => ("ThrowFlowModel", "came", "I", false)
  | _ => ("ThrowFlowModel", "given", "I", false)
def tyC0 : Nat → FieldType := fun k => match k with
  | 0 => .object "ThrowFlow$Text"
  | 1 => .object "ThrowFlow$Flow"
  | _ => .object "ThrowFlow$Machine"
def tyC1 : Nat → FieldType := fun k => match k with
  | 0 => .object "ThrowFlow$Kinds"
  | 1 => .array (.object "ThrowFlow$Body")
  | _ => .int
def tyC2 : Nat → FieldType := fun k => match k with
  | 0 => .array (.int)
  | _ => .int
def tyC3 : Nat → FieldType := fun k => match k with
  | 0 => .object "ThrowFlow$Text"
  | 1 => .boolean
  | 2 => .array (.int)
  | 3 => .array (.int)
  | 4 => .array (.int)
  | 5 => .array (.int)
  | _ => .array (.int)
def tyC4 : Nat → FieldType := fun k => match k with
  | 0 => .object "ThrowFlow$Text"
  | 1 => .array (.int)
  | 2 => .array (.int)
  | 3 => .array (.int)
  | 4 => .array (.int)
  | 5 => .int
  | 6 => .int
  | 7 => .int
  | _ => .int
def tyC5 : Nat → FieldType := fun k => match k with
  | 0 => .array (.int)
  | 1 => .array (.int)
  | 2 => .array (.int)
  | 3 => .int
  | 4 => .array (.int)
  | 5 => .array (.int)
  | 6 => .array (.int)
  | 7 => .array (.int)
  | _ => .int
def tyC6 : Nat → FieldType := fun k => match k with
  | 0 => .int
  | 1 => .int
  | 2 => .array (.int)
  | 3 => .int
  | 4 => .array (.int)
  | 5 => .array (.int)
  | 6 => .array (.int)
  | 7 => .array (.int)
  | 8 => .array (.int)
  | 9 => .array (.int)
  | 10 => .array (.int)
  | 11 => .array (.int)
  | 12 => .array (.int)
  | 13 => .boolean
  | 14 => .array (.int)
  | 15 => .int
  | 16 => .array (.int)
  | 17 => .array (.int)
  | 18 => .array (.int)
  | 19 => .array (.int)
  | 20 => .int
  | 21 => .int
  | _ => .int
def tyC (a : Nat) : Nat → FieldType := match a with
  | 0 => tyC0
  | 1 => tyC1
  | 2 => tyC2
  | 3 => tyC3
  | 4 => tyC4
  | 5 => tyC5
  | _ => tyC6
abbrev vwCl : List vw_C := [("ThrowFlow", TC0, 3), ("ThrowFlow$Text", TC1, 3), ("ThrowFlow$Kinds", TC2, 2), ("ThrowFlow$Flow", TC3, 7), ("ThrowFlow$Machine", TC4, 9), ("ThrowFlow$Body", TC5, 9), ("ThrowFlowModel", TC6, 23)]
def al_w : List Cond := lw_tbl.filter goodWord
theorem gd_w {ws : List Cond} (h : ∀ w ∈ ws, w ∈ al_w) : GoodIn al_w ws := fun w hw => ⟨h w hw, good_of_word (List.mem_filter.mp (h w hw)).2⟩
theorem in_w {w : Cond} (i : Nat) (h : lw_tbl[i]? = some w) (hg : goodWord w = true) : w ∈ al_w := List.mem_filter.mpr ⟨List.mem_of_getElem? h, hg⟩
theorem mw_0 : Cond.selects "ThrowFlow$Flow" ⟨"ThrowFlow$Flow", "raiseOwn", "()V"⟩ ⟨"ThrowFlow$Flow", "raiseOwn", "()V"⟩ ∈ al_w := in_w 0 (by decide +kernel) rfl
theorem mw_1 : Cond.selects "ThrowFlow$Flow" ⟨"ThrowFlow$Flow", "ownKinds", "(II)I"⟩ ⟨"ThrowFlow$Flow", "ownKinds", "(II)I"⟩ ∈ al_w := in_w 1 (by decide +kernel) rfl
theorem mw_2 : Cond.selects "ThrowFlow$Flow" ⟨"ThrowFlow$Flow", "note", "(IIII)V"⟩ ⟨"ThrowFlow$Flow", "note", "(IIII)V"⟩ ∈ al_w := in_w 2 (by decide +kernel) rfl
theorem mw_3 : Cond.selects "ThrowFlow$Flow" ⟨"ThrowFlow$Flow", "goesThrough", "(III)I"⟩ ⟨"ThrowFlow$Flow", "goesThrough", "(III)I"⟩ ∈ al_w := in_w 3 (by decide +kernel) rfl
theorem mw_4 : Cond.selects "ThrowFlow$Flow" ⟨"ThrowFlow$Flow", "openDoors", "()Z"⟩ ⟨"ThrowFlow$Flow", "openDoors", "()Z"⟩ ∈ al_w := in_w 4 (by decide +kernel) rfl
theorem mw_5 : Cond.selects "ThrowFlow$Flow" ⟨"ThrowFlow$Flow", "raiseFresh", "(I)V"⟩ ⟨"ThrowFlow$Flow", "raiseFresh", "(I)V"⟩ ∈ al_w := in_w 5 (by decide +kernel) rfl
theorem mw_6 : Cond.selects "ThrowFlow$Flow" ⟨"ThrowFlow$Flow", "sourceDoor", "(II)I"⟩ ⟨"ThrowFlow$Flow", "sourceDoor", "(II)I"⟩ ∈ al_w := in_w 6 (by decide +kernel) rfl
theorem mw_7 : Cond.selects "ThrowFlow$Flow" ⟨"ThrowFlow$Flow", "nearest", "(II)I"⟩ ⟨"ThrowFlow$Flow", "nearest", "(II)I"⟩ ∈ al_w := in_w 7 (by decide +kernel) rfl
theorem mw_8 : Cond.selects "ThrowFlow$Flow" ⟨"ThrowFlow$Flow", "lengthAt", "(III)I"⟩ ⟨"ThrowFlow$Flow", "lengthAt", "(III)I"⟩ ∈ al_w := in_w 8 (by decide +kernel) rfl
theorem mw_10 : Cond.selects "ThrowFlow$Machine" ⟨"ThrowFlow$Machine", "enter", "(II)V"⟩ ⟨"ThrowFlow$Machine", "enter", "(II)V"⟩ ∈ al_w := in_w 10 (by decide +kernel) rfl
theorem mw_11 : Cond.selects "ThrowFlow$Machine" ⟨"ThrowFlow$Machine", "giveAtEnds", "()V"⟩ ⟨"ThrowFlow$Machine", "giveAtEnds", "()V"⟩ ∈ al_w := in_w 11 (by decide +kernel) rfl
theorem mw_12 : Cond.selects "ThrowFlow$Machine" ⟨"ThrowFlow$Machine", "isAtEnd", "()Z"⟩ ⟨"ThrowFlow$Machine", "isAtEnd", "()Z"⟩ ∈ al_w := in_w 12 (by decide +kernel) rfl
theorem mw_13 : Cond.selects "ThrowFlow$Machine" ⟨"ThrowFlow$Machine", "body", "()LThrowFlow$Body;"⟩ ⟨"ThrowFlow$Machine", "body", "()LThrowFlow$Body;"⟩ ∈ al_w := in_w 13 (by decide +kernel) rfl
theorem mw_14 : Cond.selects "ThrowFlow$Machine" ⟨"ThrowFlow$Machine", "content", "(I)I"⟩ ⟨"ThrowFlow$Machine", "content", "(I)I"⟩ ∈ al_w := in_w 14 (by decide +kernel) rfl
theorem mw_15 : Cond.selects "ThrowFlow$Machine" ⟨"ThrowFlow$Machine", "giveBack", "(I)V"⟩ ⟨"ThrowFlow$Machine", "giveBack", "(I)V"⟩ ∈ al_w := in_w 15 (by decide +kernel) rfl
theorem mw_16 : Cond.selects "ThrowFlow$Machine" ⟨"ThrowFlow$Machine", "become", "(II)V"⟩ ⟨"ThrowFlow$Machine", "become", "(II)V"⟩ ∈ al_w := in_w 16 (by decide +kernel) rfl
theorem mw_17 : Cond.selects "ThrowFlow$Machine" ⟨"ThrowFlow$Machine", "goOn", "()V"⟩ ⟨"ThrowFlow$Machine", "goOn", "()V"⟩ ∈ al_w := in_w 17 (by decide +kernel) rfl
theorem mw_18 : Cond.selects "ThrowFlow$Machine" ⟨"ThrowFlow$Machine", "doInstruction", "()V"⟩ ⟨"ThrowFlow$Machine", "doInstruction", "()V"⟩ ∈ al_w := in_w 18 (by decide +kernel) rfl
theorem mw_19 : Cond.selects "ThrowFlow$Machine" ⟨"ThrowFlow$Machine", "divide", "(II)V"⟩ ⟨"ThrowFlow$Machine", "divide", "(II)V"⟩ ∈ al_w := in_w 19 (by decide +kernel) rfl
theorem mw_20 : Cond.selects "ThrowFlow$Machine" ⟨"ThrowFlow$Machine", "throwHere", "(I)V"⟩ ⟨"ThrowFlow$Machine", "throwHere", "(I)V"⟩ ∈ al_w := in_w 20 (by decide +kernel) rfl
theorem mw_21 : Cond.selects "ThrowFlow$Machine" ⟨"ThrowFlow$Machine", "goTo", "(I)V"⟩ ⟨"ThrowFlow$Machine", "goTo", "(I)V"⟩ ∈ al_w := in_w 21 (by decide +kernel) rfl
theorem mw_22 : Cond.selects "ThrowFlow$Machine" ⟨"ThrowFlow$Machine", "callMethod", "(II)V"⟩ ⟨"ThrowFlow$Machine", "callMethod", "(II)V"⟩ ∈ al_w := in_w 22 (by decide +kernel) rfl
theorem mw_23 : Cond.selects "ThrowFlow$Machine" ⟨"ThrowFlow$Machine", "throwAgain", "(I)V"⟩ ⟨"ThrowFlow$Machine", "throwAgain", "(I)V"⟩ ∈ al_w := in_w 23 (by decide +kernel) rfl
theorem mw_24 : Cond.selects "ThrowFlowModel" ⟨"ThrowFlowModel", "isKind", "(I)Z"⟩ ⟨"ThrowFlowModel", "isKind", "(I)Z"⟩ ∈ al_w := in_w 24 (by decide +kernel) rfl
theorem mw_25 : Cond.selects "ThrowFlowModel" ⟨"ThrowFlowModel", "isOne", "(II)Z"⟩ ⟨"ThrowFlowModel", "isOne", "(II)Z"⟩ ∈ al_w := in_w 25 (by decide +kernel) rfl
theorem mw_26 : Cond.selects "ThrowFlowModel" ⟨"ThrowFlowModel", "isMethod", "(I)Z"⟩ ⟨"ThrowFlowModel", "isMethod", "(I)Z"⟩ ∈ al_w := in_w 26 (by decide +kernel) rfl
theorem mw_27 : Cond.selects "ThrowFlowModel" ⟨"ThrowFlowModel", "fits", "(III)Z"⟩ ⟨"ThrowFlowModel", "fits", "(III)Z"⟩ ∈ al_w := in_w 27 (by decide +kernel) rfl
theorem mw_28 : Cond.selects "ThrowFlowModel" ⟨"ThrowFlowModel", "write", "(IIIII)V"⟩ ⟨"ThrowFlowModel", "write", "(IIIII)V"⟩ ∈ al_w := in_w 28 (by decide +kernel) rfl
theorem mw_29 : Cond.selects "ThrowFlowModel" ⟨"ThrowFlowModel", "isPlace", "(II)Z"⟩ ⟨"ThrowFlowModel", "isPlace", "(II)Z"⟩ ∈ al_w := in_w 29 (by decide +kernel) rfl
theorem mw_30 : Cond.selects "ThrowFlowModel" ⟨"ThrowFlowModel", "settle", "()V"⟩ ⟨"ThrowFlowModel", "settle", "()V"⟩ ∈ al_w := in_w 30 (by decide +kernel) rfl
theorem mw_31 : Cond.selects "ThrowFlowModel" ⟨"ThrowFlowModel", "lower", "()Z"⟩ ⟨"ThrowFlowModel", "lower", "()Z"⟩ ∈ al_w := in_w 31 (by decide +kernel) rfl
theorem mw_32 : Cond.selects "ThrowFlowModel" ⟨"ThrowFlowModel", "reckon", "(III)I"⟩ ⟨"ThrowFlowModel", "reckon", "(III)I"⟩ ∈ al_w := in_w 32 (by decide +kernel) rfl
theorem mw_33 : Cond.selects "ThrowFlowModel" ⟨"ThrowFlowModel", "nearest", "(III)I"⟩ ⟨"ThrowFlowModel", "nearest", "(III)I"⟩ ∈ al_w := in_w 33 (by decide +kernel) rfl
theorem mw_34 : Cond.selects "ThrowFlowModel" ⟨"ThrowFlowModel", "catcher", "(III)I"⟩ ⟨"ThrowFlowModel", "catcher", "(III)I"⟩ ∈ al_w := in_w 34 (by decide +kernel) rfl
theorem mw_35 : Cond.selects "ThrowFlowModel" ⟨"ThrowFlowModel", "where", "(II)I"⟩ ⟨"ThrowFlowModel", "where", "(II)I"⟩ ∈ al_w := in_w 35 (by decide +kernel) rfl
theorem mw_36 : Cond.selects "ThrowFlowModel" ⟨"ThrowFlowModel", "raisedAt", "(II)I"⟩ ⟨"ThrowFlowModel", "raisedAt", "(II)I"⟩ ∈ al_w := in_w 36 (by decide +kernel) rfl
theorem mw_37 : Cond.selects "ThrowFlowModel" ⟨"ThrowFlowModel", "wayOf", "(II)I"⟩ ⟨"ThrowFlowModel", "wayOf", "(II)I"⟩ ∈ al_w := in_w 37 (by decide +kernel) rfl
theorem mw_38 : Cond.selects "ThrowFlowModel" ⟨"ThrowFlowModel", "firstWith", "(IIII)I"⟩ ⟨"ThrowFlowModel", "firstWith", "(IIII)I"⟩ ∈ al_w := in_w 38 (by decide +kernel) rfl
theorem mw_39 : Cond.selects "ThrowFlowModel" ⟨"ThrowFlowModel", "enter", "(II)V"⟩ ⟨"ThrowFlowModel", "enter", "(II)V"⟩ ∈ al_w := in_w 39 (by decide +kernel) rfl
theorem mw_40 : Cond.selects "ThrowFlowModel" ⟨"ThrowFlowModel", "leave", "(I)V"⟩ ⟨"ThrowFlowModel", "leave", "(I)V"⟩ ∈ al_w := in_w 40 (by decide +kernel) rfl
theorem mw_41 : Cond.selects "ThrowFlowModel" ⟨"ThrowFlowModel", "act", "()V"⟩ ⟨"ThrowFlowModel", "act", "()V"⟩ ∈ al_w := in_w 41 (by decide +kernel) rfl
theorem mw_42 : Cond.selects "ThrowFlowModel" ⟨"ThrowFlowModel", "divide", "(III)V"⟩ ⟨"ThrowFlowModel", "divide", "(III)V"⟩ ∈ al_w := in_w 42 (by decide +kernel) rfl
theorem mw_43 : Cond.selects "ThrowFlowModel" ⟨"ThrowFlowModel", "raise", "(I)V"⟩ ⟨"ThrowFlowModel", "raise", "(I)V"⟩ ∈ al_w := in_w 43 (by decide +kernel) rfl
theorem mw_44 : Cond.selects "ThrowFlowModel" ⟨"ThrowFlowModel", "call", "(III)V"⟩ ⟨"ThrowFlowModel", "call", "(III)V"⟩ ∈ al_w := in_w 44 (by decide +kernel) rfl
theorem mw_45 : Cond.selects "ThrowFlowModel" ⟨"ThrowFlowModel", "again", "(II)V"⟩ ⟨"ThrowFlowModel", "again", "(II)V"⟩ ∈ al_w := in_w 45 (by decide +kernel) rfl
theorem mw_47 : Cond.initialized "ThrowFlow" ∈ al_w := in_w 47 (by decide +kernel) rfl
theorem mw_48 : Cond.initialized "ThrowFlow$Text" ∈ al_w := in_w 48 (by decide +kernel) rfl
theorem mw_49 : Cond.initialized "ThrowFlow$Kinds" ∈ al_w := in_w 49 (by decide +kernel) rfl
theorem mw_50 : Cond.initialized "ThrowFlow$Body" ∈ al_w := in_w 50 (by decide +kernel) rfl
theorem mw_51 : Cond.initialized "ThrowFlow$Flow" ∈ al_w := in_w 51 (by decide +kernel) rfl
theorem mw_52 : Cond.initialized "ThrowFlow$Machine" ∈ al_w := in_w 52 (by decide +kernel) rfl
theorem mw_53 : Cond.initialized "ThrowFlowModel" ∈ al_w := in_w 53 (by decide +kernel) rfl
theorem mw_60 : Cond.initialized "java/util/Arrays" ∈ al_w := in_w 60 (by decide +kernel) rfl
theorem mw_82 : Cond.fieldLink "ThrowFlow$Kinds" 9 "ThrowFlow$Kinds" "members" "[I" ∈ al_w := in_w 82 (by decide +kernel) rfl
theorem mw_83 : Cond.fieldLink "ThrowFlow$Kinds" 15 "ThrowFlow$Kinds" "count" "I" ∈ al_w := in_w 83 (by decide +kernel) rfl
theorem mw_84 : Cond.laysFinal "ThrowFlow$Kinds" "ThrowFlow$Kinds" "members" "[I" ∈ al_w := in_w 84 (by decide +kernel) rfl
theorem mw_86 : Cond.lays "ThrowFlow$Kinds" "ThrowFlow$Kinds" "count" "I" ∈ al_w := in_w 86 (by decide +kernel) rfl
theorem mw_97 : Cond.fieldLink "ThrowFlow$Body" 9 "ThrowFlow$Body" "codes" "[I" ∈ al_w := in_w 97 (by decide +kernel) rfl
theorem mw_98 : Cond.fieldLink "ThrowFlow" 122 "ThrowFlow$Body" "codes" "[I" ∈ al_w := in_w 98 (by decide +kernel) rfl
theorem mw_99 : Cond.fieldLink "ThrowFlow$Machine" 81 "ThrowFlow$Body" "codes" "[I" ∈ al_w := in_w 99 (by decide +kernel) rfl
theorem mw_100 : Cond.fieldLink "ThrowFlow$Flow" 88 "ThrowFlow$Body" "codes" "[I" ∈ al_w := in_w 100 (by decide +kernel) rfl
theorem mw_101 : Cond.fieldLink "ThrowFlow$Body" 15 "ThrowFlow$Body" "as" "[I" ∈ al_w := in_w 101 (by decide +kernel) rfl
theorem mw_102 : Cond.fieldLink "ThrowFlow$Machine" 75 "ThrowFlow$Body" "as" "[I" ∈ al_w := in_w 102 (by decide +kernel) rfl
theorem mw_103 : Cond.fieldLink "ThrowFlow$Flow" 94 "ThrowFlow$Body" "as" "[I" ∈ al_w := in_w 103 (by decide +kernel) rfl
theorem mw_104 : Cond.fieldLink "ThrowFlow$Body" 18 "ThrowFlow$Body" "bs" "[I" ∈ al_w := in_w 104 (by decide +kernel) rfl
theorem mw_105 : Cond.fieldLink "ThrowFlow$Machine" 78 "ThrowFlow$Body" "bs" "[I" ∈ al_w := in_w 105 (by decide +kernel) rfl
theorem mw_106 : Cond.fieldLink "ThrowFlow$Flow" 91 "ThrowFlow$Body" "bs" "[I" ∈ al_w := in_w 106 (by decide +kernel) rfl
theorem mw_107 : Cond.fieldLink "ThrowFlow$Body" 33 "ThrowFlow$Body" "size" "I" ∈ al_w := in_w 107 (by decide +kernel) rfl
theorem mw_108 : Cond.fieldLink "ThrowFlow$Text" 33 "ThrowFlow$Body" "size" "I" ∈ al_w := in_w 108 (by decide +kernel) rfl
theorem mw_109 : Cond.fieldLink "ThrowFlow$Machine" 64 "ThrowFlow$Body" "size" "I" ∈ al_w := in_w 109 (by decide +kernel) rfl
theorem mw_110 : Cond.fieldLink "ThrowFlow$Flow" 72 "ThrowFlow$Body" "size" "I" ∈ al_w := in_w 110 (by decide +kernel) rfl
theorem mw_111 : Cond.fieldLink "ThrowFlow$Body" 21 "ThrowFlow$Body" "firsts" "[I" ∈ al_w := in_w 111 (by decide +kernel) rfl
theorem mw_112 : Cond.fieldLink "ThrowFlow$Body" 24 "ThrowFlow$Body" "lasts" "[I" ∈ al_w := in_w 112 (by decide +kernel) rfl
theorem mw_113 : Cond.fieldLink "ThrowFlow$Body" 27 "ThrowFlow$Body" "caughtKinds" "[I" ∈ al_w := in_w 113 (by decide +kernel) rfl
theorem mw_114 : Cond.fieldLink "ThrowFlow$Body" 30 "ThrowFlow$Body" "targets" "[I" ∈ al_w := in_w 114 (by decide +kernel) rfl
theorem mw_115 : Cond.fieldLink "ThrowFlow$Machine" 120 "ThrowFlow$Body" "targets" "[I" ∈ al_w := in_w 115 (by decide +kernel) rfl
theorem mw_116 : Cond.fieldLink "ThrowFlow$Body" 37 "ThrowFlow$Body" "handlerCount" "I" ∈ al_w := in_w 116 (by decide +kernel) rfl
theorem mw_117 : Cond.fieldLink "ThrowFlow$Text" 36 "ThrowFlow$Body" "handlerCount" "I" ∈ al_w := in_w 117 (by decide +kernel) rfl
theorem mw_118 : Cond.laysFinal "ThrowFlow$Body" "ThrowFlow$Body" "codes" "[I" ∈ al_w := in_w 118 (by decide +kernel) rfl
theorem mw_120 : Cond.laysFinal "ThrowFlow$Body" "ThrowFlow$Body" "as" "[I" ∈ al_w := in_w 120 (by decide +kernel) rfl
theorem mw_122 : Cond.laysFinal "ThrowFlow$Body" "ThrowFlow$Body" "bs" "[I" ∈ al_w := in_w 122 (by decide +kernel) rfl
theorem mw_124 : Cond.lays "ThrowFlow$Body" "ThrowFlow$Body" "size" "I" ∈ al_w := in_w 124 (by decide +kernel) rfl
theorem mw_126 : Cond.laysFinal "ThrowFlow$Body" "ThrowFlow$Body" "firsts" "[I" ∈ al_w := in_w 126 (by decide +kernel) rfl
theorem mw_128 : Cond.laysFinal "ThrowFlow$Body" "ThrowFlow$Body" "lasts" "[I" ∈ al_w := in_w 128 (by decide +kernel) rfl
theorem mw_130 : Cond.laysFinal "ThrowFlow$Body" "ThrowFlow$Body" "caughtKinds" "[I" ∈ al_w := in_w 130 (by decide +kernel) rfl
theorem mw_132 : Cond.laysFinal "ThrowFlow$Body" "ThrowFlow$Body" "targets" "[I" ∈ al_w := in_w 132 (by decide +kernel) rfl
theorem mw_134 : Cond.lays "ThrowFlow$Body" "ThrowFlow$Body" "handlerCount" "I" ∈ al_w := in_w 134 (by decide +kernel) rfl
theorem mw_137 : Cond.fieldLink "ThrowFlow$Text" 12 "ThrowFlow$Text" "kinds" "LThrowFlow$Kinds;" ∈ al_w := in_w 137 (by decide +kernel) rfl
theorem mw_138 : Cond.fieldLink "ThrowFlow" 32 "ThrowFlow$Text" "kinds" "LThrowFlow$Kinds;" ∈ al_w := in_w 138 (by decide +kernel) rfl
theorem mw_139 : Cond.fieldLink "ThrowFlow$Flow" 45 "ThrowFlow$Text" "kinds" "LThrowFlow$Kinds;" ∈ al_w := in_w 139 (by decide +kernel) rfl
theorem mw_140 : Cond.fieldLink "ThrowFlow$Machine" 112 "ThrowFlow$Text" "kinds" "LThrowFlow$Kinds;" ∈ al_w := in_w 140 (by decide +kernel) rfl
theorem mw_141 : Cond.fieldLink "ThrowFlow$Text" 20 "ThrowFlow$Text" "bodies" "[LThrowFlow$Body;" ∈ al_w := in_w 141 (by decide +kernel) rfl
theorem mw_142 : Cond.fieldLink "ThrowFlow" 79 "ThrowFlow$Text" "bodies" "[LThrowFlow$Body;" ∈ al_w := in_w 142 (by decide +kernel) rfl
theorem mw_143 : Cond.fieldLink "ThrowFlow$Machine" 69 "ThrowFlow$Text" "bodies" "[LThrowFlow$Body;" ∈ al_w := in_w 143 (by decide +kernel) rfl
theorem mw_144 : Cond.fieldLink "ThrowFlow$Flow" 68 "ThrowFlow$Text" "bodies" "[LThrowFlow$Body;" ∈ al_w := in_w 144 (by decide +kernel) rfl
theorem mw_145 : Cond.fieldLink "ThrowFlow$Text" 25 "ThrowFlow$Text" "count" "I" ∈ al_w := in_w 145 (by decide +kernel) rfl
theorem mw_146 : Cond.laysFinal "ThrowFlow$Text" "ThrowFlow$Text" "kinds" "LThrowFlow$Kinds;" ∈ al_w := in_w 146 (by decide +kernel) rfl
theorem mw_148 : Cond.laysFinal "ThrowFlow$Text" "ThrowFlow$Text" "bodies" "[LThrowFlow$Body;" ∈ al_w := in_w 148 (by decide +kernel) rfl
theorem mw_150 : Cond.lays "ThrowFlow$Text" "ThrowFlow$Text" "count" "I" ∈ al_w := in_w 150 (by decide +kernel) rfl
theorem mw_159 : Cond.fieldLink "ThrowFlow$Flow" 31 "ThrowFlow$Flow" "text" "LThrowFlow$Text;" ∈ al_w := in_w 159 (by decide +kernel) rfl
theorem mw_160 : Cond.fieldLink "ThrowFlow$Flow" 11 "ThrowFlow$Flow" "stale" "Z" ∈ al_w := in_w 160 (by decide +kernel) rfl
theorem mw_161 : Cond.fieldLink "ThrowFlow" 94 "ThrowFlow$Flow" "stale" "Z" ∈ al_w := in_w 161 (by decide +kernel) rfl
theorem mw_162 : Cond.fieldLink "ThrowFlow$Flow" 15 "ThrowFlow$Flow" "raised" "[I" ∈ al_w := in_w 162 (by decide +kernel) rfl
theorem mw_163 : Cond.fieldLink "ThrowFlow$Flow" 19 "ThrowFlow$Flow" "lengths" "[I" ∈ al_w := in_w 163 (by decide +kernel) rfl
theorem mw_164 : Cond.fieldLink "ThrowFlow$Flow" 22 "ThrowFlow$Flow" "passed" "[I" ∈ al_w := in_w 164 (by decide +kernel) rfl
theorem mw_165 : Cond.fieldLink "ThrowFlow$Flow" 25 "ThrowFlow$Flow" "fresh" "[I" ∈ al_w := in_w 165 (by decide +kernel) rfl
theorem mw_166 : Cond.fieldLink "ThrowFlow$Flow" 28 "ThrowFlow$Flow" "coming" "[I" ∈ al_w := in_w 166 (by decide +kernel) rfl
theorem mw_167 : Cond.laysFinal "ThrowFlow$Flow" "ThrowFlow$Flow" "text" "LThrowFlow$Text;" ∈ al_w := in_w 167 (by decide +kernel) rfl
theorem mw_169 : Cond.lays "ThrowFlow$Flow" "ThrowFlow$Flow" "stale" "Z" ∈ al_w := in_w 169 (by decide +kernel) rfl
theorem mw_171 : Cond.laysFinal "ThrowFlow$Flow" "ThrowFlow$Flow" "raised" "[I" ∈ al_w := in_w 171 (by decide +kernel) rfl
theorem mw_173 : Cond.laysFinal "ThrowFlow$Flow" "ThrowFlow$Flow" "lengths" "[I" ∈ al_w := in_w 173 (by decide +kernel) rfl
theorem mw_175 : Cond.laysFinal "ThrowFlow$Flow" "ThrowFlow$Flow" "passed" "[I" ∈ al_w := in_w 175 (by decide +kernel) rfl
theorem mw_177 : Cond.laysFinal "ThrowFlow$Flow" "ThrowFlow$Flow" "fresh" "[I" ∈ al_w := in_w 177 (by decide +kernel) rfl
theorem mw_179 : Cond.laysFinal "ThrowFlow$Flow" "ThrowFlow$Flow" "coming" "[I" ∈ al_w := in_w 179 (by decide +kernel) rfl
theorem mw_188 : Cond.fieldLink "ThrowFlow$Machine" 28 "ThrowFlow$Machine" "text" "LThrowFlow$Text;" ∈ al_w := in_w 188 (by decide +kernel) rfl
theorem mw_189 : Cond.fieldLink "ThrowFlow$Machine" 9 "ThrowFlow$Machine" "methods" "[I" ∈ al_w := in_w 189 (by decide +kernel) rfl
theorem mw_190 : Cond.fieldLink "ThrowFlow$Machine" 15 "ThrowFlow$Machine" "places" "[I" ∈ al_w := in_w 190 (by decide +kernel) rfl
theorem mw_191 : Cond.fieldLink "ThrowFlow$Machine" 18 "ThrowFlow$Machine" "registers" "[I" ∈ al_w := in_w 191 (by decide +kernel) rfl
theorem mw_192 : Cond.fieldLink "ThrowFlow$Machine" 21 "ThrowFlow$Machine" "caught" "[I" ∈ al_w := in_w 192 (by decide +kernel) rfl
theorem mw_193 : Cond.fieldLink "ThrowFlow$Machine" 32 "ThrowFlow$Machine" "depth" "I" ∈ al_w := in_w 193 (by decide +kernel) rfl
theorem mw_194 : Cond.fieldLink "ThrowFlow$Machine" 42 "ThrowFlow$Machine" "used" "I" ∈ al_w := in_w 194 (by decide +kernel) rfl
theorem mw_195 : Cond.fieldLink "ThrowFlow" 178 "ThrowFlow$Machine" "used" "I" ∈ al_w := in_w 195 (by decide +kernel) rfl
theorem mw_196 : Cond.fieldLink "ThrowFlow" 175 "ThrowFlow$Machine" "given" "I" ∈ al_w := in_w 196 (by decide +kernel) rfl
theorem mw_197 : Cond.fieldLink "ThrowFlow$Machine" 109 "ThrowFlow$Machine" "given" "I" ∈ al_w := in_w 197 (by decide +kernel) rfl
theorem mw_198 : Cond.fieldLink "ThrowFlow$Machine" 24 "ThrowFlow$Machine" "cameOut" "I" ∈ al_w := in_w 198 (by decide +kernel) rfl
theorem mw_199 : Cond.fieldLink "ThrowFlow" 169 "ThrowFlow$Machine" "cameOut" "I" ∈ al_w := in_w 199 (by decide +kernel) rfl
theorem mw_200 : Cond.laysFinal "ThrowFlow$Machine" "ThrowFlow$Machine" "text" "LThrowFlow$Text;" ∈ al_w := in_w 200 (by decide +kernel) rfl
theorem mw_202 : Cond.laysFinal "ThrowFlow$Machine" "ThrowFlow$Machine" "methods" "[I" ∈ al_w := in_w 202 (by decide +kernel) rfl
theorem mw_204 : Cond.laysFinal "ThrowFlow$Machine" "ThrowFlow$Machine" "places" "[I" ∈ al_w := in_w 204 (by decide +kernel) rfl
theorem mw_206 : Cond.laysFinal "ThrowFlow$Machine" "ThrowFlow$Machine" "registers" "[I" ∈ al_w := in_w 206 (by decide +kernel) rfl
theorem mw_208 : Cond.laysFinal "ThrowFlow$Machine" "ThrowFlow$Machine" "caught" "[I" ∈ al_w := in_w 208 (by decide +kernel) rfl
theorem mw_210 : Cond.lays "ThrowFlow$Machine" "ThrowFlow$Machine" "depth" "I" ∈ al_w := in_w 210 (by decide +kernel) rfl
theorem mw_212 : Cond.lays "ThrowFlow$Machine" "ThrowFlow$Machine" "used" "I" ∈ al_w := in_w 212 (by decide +kernel) rfl
theorem mw_214 : Cond.lays "ThrowFlow$Machine" "ThrowFlow$Machine" "given" "I" ∈ al_w := in_w 214 (by decide +kernel) rfl
theorem mw_216 : Cond.lays "ThrowFlow$Machine" "ThrowFlow$Machine" "cameOut" "I" ∈ al_w := in_w 216 (by decide +kernel) rfl
theorem mw_219 : Cond.fieldLink "ThrowFlow" 10 "ThrowFlow" "text" "LThrowFlow$Text;" ∈ al_w := in_w 219 (by decide +kernel) rfl
theorem mw_220 : Cond.fieldLink "ThrowFlow" 21 "ThrowFlow" "flow" "LThrowFlow$Flow;" ∈ al_w := in_w 220 (by decide +kernel) rfl
theorem mw_221 : Cond.fieldLink "ThrowFlow" 28 "ThrowFlow" "machine" "LThrowFlow$Machine;" ∈ al_w := in_w 221 (by decide +kernel) rfl
theorem mw_222 : Cond.laysFinal "ThrowFlow" "ThrowFlow" "text" "LThrowFlow$Text;" ∈ al_w := in_w 222 (by decide +kernel) rfl
theorem mw_224 : Cond.laysFinal "ThrowFlow" "ThrowFlow" "flow" "LThrowFlow$Flow;" ∈ al_w := in_w 224 (by decide +kernel) rfl
theorem mw_226 : Cond.laysFinal "ThrowFlow" "ThrowFlow" "machine" "LThrowFlow$Machine;" ∈ al_w := in_w 226 (by decide +kernel) rfl
theorem mw_229 : Cond.methodLink "ThrowFlowLaw" 50 ⟨"ThrowFlow", "is", "(II)Z"⟩ ∈ al_w := in_w 229 (by decide +kernel) rfl
theorem mw_230 : Cond.instanceMethod ⟨"ThrowFlow", "is", "(II)Z"⟩ ∈ al_w := in_w 230 (by decide +kernel) rfl
theorem mw_231 : Cond.selects "ThrowFlow" ⟨"ThrowFlow", "is", "(II)Z"⟩ ⟨"ThrowFlow", "is", "(II)Z"⟩ ∈ al_w := in_w 231 (by decide +kernel) rfl
set_option maxRecDepth 20000 in
theorem mw_232 : Cond.code ⟨"ThrowFlow", "is", "(II)Z"⟩ prog_1_method_3_code 3 (some (.boolean)) ∈ al_w := in_w 232 (by rfl) rfl
theorem mw_233 : Cond.methodLink "ThrowFlow" 36 ⟨"ThrowFlow$Kinds", "has", "(I)Z"⟩ ∈ al_w := in_w 233 (by decide +kernel) rfl
theorem mw_234 : Cond.instanceMethod ⟨"ThrowFlow$Kinds", "has", "(I)Z"⟩ ∈ al_w := in_w 234 (by decide +kernel) rfl
theorem mw_235 : Cond.selects "ThrowFlow$Kinds" ⟨"ThrowFlow$Kinds", "has", "(I)Z"⟩ ⟨"ThrowFlow$Kinds", "has", "(I)Z"⟩ ∈ al_w := in_w 235 (by decide +kernel) rfl
set_option maxRecDepth 20000 in
theorem mw_236 : Cond.code ⟨"ThrowFlow$Kinds", "has", "(I)Z"⟩ prog_4_method_2_code 2 (some (.boolean)) ∈ al_w := in_w 236 (by rfl) rfl
theorem mw_237 : Cond.methodLink "ThrowFlow" 62 ⟨"ThrowFlow$Kinds", "isOneOf", "(II)Z"⟩ ∈ al_w := in_w 237 (by decide +kernel) rfl
theorem mw_238 : Cond.instanceMethod ⟨"ThrowFlow$Kinds", "isOneOf", "(II)Z"⟩ ∈ al_w := in_w 238 (by decide +kernel) rfl
theorem mw_239 : Cond.selects "ThrowFlow$Kinds" ⟨"ThrowFlow$Kinds", "isOneOf", "(II)Z"⟩ ⟨"ThrowFlow$Kinds", "isOneOf", "(II)Z"⟩ ∈ al_w := in_w 239 (by decide +kernel) rfl
set_option maxRecDepth 20000 in
theorem mw_240 : Cond.code ⟨"ThrowFlow$Kinds", "isOneOf", "(II)Z"⟩ prog_4_method_4_code 3 (some (.boolean)) ∈ al_w := in_w 240 (by rfl) rfl
theorem mw_241 : Cond.methodLink "ThrowFlowLaw" 55 ⟨"ThrowFlow", "method", "()I"⟩ ∈ al_w := in_w 241 (by decide +kernel) rfl
theorem mw_242 : Cond.instanceMethod ⟨"ThrowFlow", "method", "()I"⟩ ∈ al_w := in_w 242 (by decide +kernel) rfl
theorem mw_243 : Cond.selects "ThrowFlow" ⟨"ThrowFlow", "method", "()I"⟩ ⟨"ThrowFlow", "method", "()I"⟩ ∈ al_w := in_w 243 (by decide +kernel) rfl
set_option maxRecDepth 20000 in
theorem mw_244 : Cond.code ⟨"ThrowFlow", "method", "()I"⟩ prog_1_method_4_code 1 (some (.int)) ∈ al_w := in_w 244 (by rfl) rfl
theorem mw_245 : Cond.methodLink "ThrowFlow" 66 ⟨"ThrowFlow$Text", "isFull", "()Z"⟩ ∈ al_w := in_w 245 (by decide +kernel) rfl
theorem mw_246 : Cond.instanceMethod ⟨"ThrowFlow$Text", "isFull", "()Z"⟩ ∈ al_w := in_w 246 (by decide +kernel) rfl
theorem mw_247 : Cond.selects "ThrowFlow$Text" ⟨"ThrowFlow$Text", "isFull", "()Z"⟩ ⟨"ThrowFlow$Text", "isFull", "()Z"⟩ ∈ al_w := in_w 247 (by decide +kernel) rfl
set_option maxRecDepth 20000 in
theorem mw_248 : Cond.code ⟨"ThrowFlow$Text", "isFull", "()Z"⟩ prog_6_method_2_code 1 (some (.boolean)) ∈ al_w := in_w 248 (by rfl) rfl
theorem mw_249 : Cond.methodLink "ThrowFlow" 67 ⟨"ThrowFlow$Text", "appendMethod", "()I"⟩ ∈ al_w := in_w 249 (by decide +kernel) rfl
theorem mw_250 : Cond.instanceMethod ⟨"ThrowFlow$Text", "appendMethod", "()I"⟩ ∈ al_w := in_w 250 (by decide +kernel) rfl
theorem mw_251 : Cond.selects "ThrowFlow$Text" ⟨"ThrowFlow$Text", "appendMethod", "()I"⟩ ⟨"ThrowFlow$Text", "appendMethod", "()I"⟩ ∈ al_w := in_w 251 (by decide +kernel) rfl
set_option maxRecDepth 20000 in
theorem mw_252 : Cond.code ⟨"ThrowFlow$Text", "appendMethod", "()I"⟩ prog_6_method_3_code 2 (some (.int)) ∈ al_w := in_w 252 (by rfl) rfl
theorem mw_253 : Cond.methodLink "ThrowFlowLaw" 70 ⟨"ThrowFlow", "out", "(I)I"⟩ ∈ al_w := in_w 253 (by decide +kernel) rfl
theorem mw_254 : Cond.instanceMethod ⟨"ThrowFlow", "out", "(I)I"⟩ ∈ al_w := in_w 254 (by decide +kernel) rfl
theorem mw_255 : Cond.selects "ThrowFlow" ⟨"ThrowFlow", "out", "(I)I"⟩ ⟨"ThrowFlow", "out", "(I)I"⟩ ∈ al_w := in_w 255 (by decide +kernel) rfl
set_option maxRecDepth 20000 in
theorem mw_256 : Cond.code ⟨"ThrowFlow", "out", "(I)I"⟩ prog_1_method_8_code 2 (some (.int)) ∈ al_w := in_w 256 (by rfl) rfl
theorem mw_257 : Cond.methodLink "ThrowFlow" 130 ⟨"ThrowFlow$Flow", "refresh", "()V"⟩ ∈ al_w := in_w 257 (by decide +kernel) rfl
theorem mw_258 : Cond.instanceMethod ⟨"ThrowFlow$Flow", "refresh", "()V"⟩ ∈ al_w := in_w 258 (by decide +kernel) rfl
theorem mw_259 : Cond.selects "ThrowFlow$Flow" ⟨"ThrowFlow$Flow", "refresh", "()V"⟩ ⟨"ThrowFlow$Flow", "refresh", "()V"⟩ ∈ al_w := in_w 259 (by decide +kernel) rfl
set_option maxRecDepth 20000 in
theorem mw_260 : Cond.code ⟨"ThrowFlow$Flow", "refresh", "()V"⟩ prog_3_method_14_code 2 none ∈ al_w := in_w 260 (by rfl) rfl
theorem mw_261 : Cond.methodLink "ThrowFlow$Flow" 97 ⟨"java/util/Arrays", "fill", "([II)V"⟩ ∈ al_w := in_w 261 (by decide +kernel) rfl
theorem mw_262 : Cond.static ⟨"java/util/Arrays", "fill", "([II)V"⟩ ∈ al_w := in_w 262 (by decide +kernel) rfl
set_option maxRecDepth 20000 in
theorem mw_263 : Cond.code ⟨"java/util/Arrays", "fill", "([II)V"⟩ prog_17_method_103_code 4 none ∈ al_w := in_w 263 (by rfl) rfl
theorem mw_264 : Cond.methodLink "ThrowFlow$Flow" 103 ⟨"ThrowFlow$Flow", "raiseOwn", "()V"⟩ ∈ al_w := in_w 264 (by decide +kernel) rfl
theorem mw_266 : Cond.instanceMethod ⟨"ThrowFlow$Flow", "raiseOwn", "()V"⟩ ∈ al_w := in_w 266 (by decide +kernel) rfl
set_option maxRecDepth 20000 in
theorem mw_267 : Cond.code ⟨"ThrowFlow$Flow", "raiseOwn", "()V"⟩ prog_3_method_15_code 3 none ∈ al_w := in_w 267 (by rfl) rfl
theorem mw_268 : Cond.methodLink "ThrowFlow$Flow" 114 ⟨"ThrowFlow$Flow", "ownKinds", "(II)I"⟩ ∈ al_w := in_w 268 (by decide +kernel) rfl
theorem mw_270 : Cond.instanceMethod ⟨"ThrowFlow$Flow", "ownKinds", "(II)I"⟩ ∈ al_w := in_w 270 (by decide +kernel) rfl
set_option maxRecDepth 20000 in
theorem mw_271 : Cond.code ⟨"ThrowFlow$Flow", "ownKinds", "(II)I"⟩ prog_3_method_13_code 4 (some (.int)) ∈ al_w := in_w 271 (by rfl) rfl
theorem mw_272 : Cond.methodLink "ThrowFlow$Flow" 117 ⟨"ThrowFlow$Flow", "note", "(IIII)V"⟩ ∈ al_w := in_w 272 (by decide +kernel) rfl
theorem mw_274 : Cond.instanceMethod ⟨"ThrowFlow$Flow", "note", "(IIII)V"⟩ ∈ al_w := in_w 274 (by decide +kernel) rfl
set_option maxRecDepth 20000 in
theorem mw_275 : Cond.code ⟨"ThrowFlow$Flow", "note", "(IIII)V"⟩ prog_3_method_18_code 8 none ∈ al_w := in_w 275 (by rfl) rfl
theorem mw_276 : Cond.methodLink "ThrowFlow$Flow" 35 ⟨"ThrowFlow$Flow", "placeOf", "(II)I"⟩ ∈ al_w := in_w 276 (by decide +kernel) rfl
theorem mw_277 : Cond.static ⟨"ThrowFlow$Flow", "placeOf", "(II)I"⟩ ∈ al_w := in_w 277 (by decide +kernel) rfl
set_option maxRecDepth 20000 in
theorem mw_278 : Cond.code ⟨"ThrowFlow$Flow", "placeOf", "(II)I"⟩ prog_3_method_4_code 2 (some (.int)) ∈ al_w := in_w 278 (by rfl) rfl
theorem mw_279 : Cond.methodLink "ThrowFlow$Flow" 78 ⟨"ThrowFlow$Flow", "goesThrough", "(III)I"⟩ ∈ al_w := in_w 279 (by decide +kernel) rfl
theorem mw_281 : Cond.instanceMethod ⟨"ThrowFlow$Flow", "goesThrough", "(III)I"⟩ ∈ al_w := in_w 281 (by decide +kernel) rfl
set_option maxRecDepth 20000 in
theorem mw_282 : Cond.code ⟨"ThrowFlow$Flow", "goesThrough", "(III)I"⟩ prog_3_method_11_code 5 (some (.int)) ∈ al_w := in_w 282 (by rfl) rfl
theorem mw_283 : Cond.methodLink "ThrowFlow$Flow" 81 ⟨"ThrowFlow$Body", "catcher", "(IILThrowFlow$Kinds;)I"⟩ ∈ al_w := in_w 283 (by decide +kernel) rfl
theorem mw_284 : Cond.instanceMethod ⟨"ThrowFlow$Body", "catcher", "(IILThrowFlow$Kinds;)I"⟩ ∈ al_w := in_w 284 (by decide +kernel) rfl
theorem mw_285 : Cond.selects "ThrowFlow$Body" ⟨"ThrowFlow$Body", "catcher", "(IILThrowFlow$Kinds;)I"⟩ ⟨"ThrowFlow$Body", "catcher", "(IILThrowFlow$Kinds;)I"⟩ ∈ al_w := in_w 285 (by decide +kernel) rfl
set_option maxRecDepth 20000 in
theorem mw_286 : Cond.code ⟨"ThrowFlow$Body", "catcher", "(IILThrowFlow$Kinds;)I"⟩ prog_2_method_8_code 5 (some (.int)) ∈ al_w := in_w 286 (by rfl) rfl
theorem mw_287 : Cond.methodLink "ThrowFlow$Body" 44 ⟨"ThrowFlow$Body", "covers", "(II)Z"⟩ ∈ al_w := in_w 287 (by decide +kernel) rfl
theorem mw_288 : Cond.instanceMethod ⟨"ThrowFlow$Body", "covers", "(II)Z"⟩ ∈ al_w := in_w 288 (by decide +kernel) rfl
theorem mw_289 : Cond.selects "ThrowFlow$Body" ⟨"ThrowFlow$Body", "covers", "(II)Z"⟩ ⟨"ThrowFlow$Body", "covers", "(II)Z"⟩ ∈ al_w := in_w 289 (by decide +kernel) rfl
set_option maxRecDepth 20000 in
theorem mw_290 : Cond.code ⟨"ThrowFlow$Body", "covers", "(II)Z"⟩ prog_2_method_7_code 3 (some (.boolean)) ∈ al_w := in_w 290 (by rfl) rfl
theorem mw_291 : Cond.methodLink "ThrowFlow$Body" 48 ⟨"ThrowFlow$Kinds", "isOneOf", "(II)Z"⟩ ∈ al_w := in_w 291 (by decide +kernel) rfl
theorem mw_292 : Cond.methodLink "ThrowFlow$Flow" 54 ⟨"ThrowFlow$Flow", "doorOut", "(I)I"⟩ ∈ al_w := in_w 292 (by decide +kernel) rfl
theorem mw_293 : Cond.static ⟨"ThrowFlow$Flow", "doorOut", "(I)I"⟩ ∈ al_w := in_w 293 (by decide +kernel) rfl
set_option maxRecDepth 20000 in
theorem mw_294 : Cond.code ⟨"ThrowFlow$Flow", "doorOut", "(I)I"⟩ prog_3_method_3_code 1 (some (.int)) ∈ al_w := in_w 294 (by rfl) rfl
theorem mw_295 : Cond.methodLink "ThrowFlow$Flow" 85 ⟨"ThrowFlow$Flow", "doorOf", "(II)I"⟩ ∈ al_w := in_w 295 (by decide +kernel) rfl
theorem mw_296 : Cond.static ⟨"ThrowFlow$Flow", "doorOf", "(II)I"⟩ ∈ al_w := in_w 296 (by decide +kernel) rfl
set_option maxRecDepth 20000 in
theorem mw_297 : Cond.code ⟨"ThrowFlow$Flow", "doorOf", "(II)I"⟩ prog_3_method_2_code 2 (some (.int)) ∈ al_w := in_w 297 (by rfl) rfl
theorem mw_298 : Cond.methodLink "ThrowFlow$Flow" 106 ⟨"ThrowFlow$Flow", "openDoors", "()Z"⟩ ∈ al_w := in_w 298 (by decide +kernel) rfl
theorem mw_300 : Cond.instanceMethod ⟨"ThrowFlow$Flow", "openDoors", "()Z"⟩ ∈ al_w := in_w 300 (by decide +kernel) rfl
set_option maxRecDepth 20000 in
theorem mw_301 : Cond.code ⟨"ThrowFlow$Flow", "openDoors", "()Z"⟩ prog_3_method_17_code 3 (some (.boolean)) ∈ al_w := in_w 301 (by rfl) rfl
theorem mw_302 : Cond.methodLink "ThrowFlow$Flow" 110 ⟨"ThrowFlow$Flow", "raiseFresh", "(I)V"⟩ ∈ al_w := in_w 302 (by decide +kernel) rfl
theorem mw_304 : Cond.instanceMethod ⟨"ThrowFlow$Flow", "raiseFresh", "(I)V"⟩ ∈ al_w := in_w 304 (by decide +kernel) rfl
set_option maxRecDepth 20000 in
theorem mw_305 : Cond.code ⟨"ThrowFlow$Flow", "raiseFresh", "(I)V"⟩ prog_3_method_16_code 5 none ∈ al_w := in_w 305 (by rfl) rfl
theorem mw_306 : Cond.methodLink "ThrowFlow$Flow" 65 ⟨"ThrowFlow$Flow", "sourceDoor", "(II)I"⟩ ∈ al_w := in_w 306 (by decide +kernel) rfl
theorem mw_308 : Cond.instanceMethod ⟨"ThrowFlow$Flow", "sourceDoor", "(II)I"⟩ ∈ al_w := in_w 308 (by decide +kernel) rfl
set_option maxRecDepth 20000 in
theorem mw_309 : Cond.code ⟨"ThrowFlow$Flow", "sourceDoor", "(II)I"⟩ prog_3_method_12_code 4 (some (.int)) ∈ al_w := in_w 309 (by rfl) rfl
theorem mw_310 : Cond.methodLink "ThrowFlow" 71 ⟨"ThrowFlow$Text", "hasMethod", "(I)Z"⟩ ∈ al_w := in_w 310 (by decide +kernel) rfl
theorem mw_311 : Cond.instanceMethod ⟨"ThrowFlow$Text", "hasMethod", "(I)Z"⟩ ∈ al_w := in_w 311 (by decide +kernel) rfl
theorem mw_312 : Cond.selects "ThrowFlow$Text" ⟨"ThrowFlow$Text", "hasMethod", "(I)Z"⟩ ⟨"ThrowFlow$Text", "hasMethod", "(I)Z"⟩ ∈ al_w := in_w 312 (by decide +kernel) rfl
set_option maxRecDepth 20000 in
theorem mw_313 : Cond.code ⟨"ThrowFlow$Text", "hasMethod", "(I)Z"⟩ prog_6_method_4_code 2 (some (.boolean)) ∈ al_w := in_w 313 (by rfl) rfl
theorem mw_314 : Cond.methodLink "ThrowFlow" 133 ⟨"ThrowFlow$Flow", "doorOut", "(I)I"⟩ ∈ al_w := in_w 314 (by decide +kernel) rfl
theorem mw_315 : Cond.methodLink "ThrowFlow" 136 ⟨"ThrowFlow$Flow", "through", "(I)I"⟩ ∈ al_w := in_w 315 (by decide +kernel) rfl
theorem mw_316 : Cond.instanceMethod ⟨"ThrowFlow$Flow", "through", "(I)I"⟩ ∈ al_w := in_w 316 (by decide +kernel) rfl
theorem mw_317 : Cond.selects "ThrowFlow$Flow" ⟨"ThrowFlow$Flow", "through", "(I)I"⟩ ⟨"ThrowFlow$Flow", "through", "(I)I"⟩ ∈ al_w := in_w 317 (by decide +kernel) rfl
set_option maxRecDepth 20000 in
theorem mw_318 : Cond.code ⟨"ThrowFlow$Flow", "through", "(I)I"⟩ prog_3_method_5_code 2 (some (.int)) ∈ al_w := in_w 318 (by rfl) rfl
theorem mw_319 : Cond.methodLink "ThrowFlowLaw" 74 ⟨"ThrowFlow", "raises", "(II)I"⟩ ∈ al_w := in_w 319 (by decide +kernel) rfl
theorem mw_320 : Cond.instanceMethod ⟨"ThrowFlow", "raises", "(II)I"⟩ ∈ al_w := in_w 320 (by decide +kernel) rfl
theorem mw_321 : Cond.selects "ThrowFlow" ⟨"ThrowFlow", "raises", "(II)I"⟩ ⟨"ThrowFlow", "raises", "(II)I"⟩ ∈ al_w := in_w 321 (by decide +kernel) rfl
set_option maxRecDepth 20000 in
theorem mw_322 : Cond.code ⟨"ThrowFlow", "raises", "(II)I"⟩ prog_1_method_9_code 3 (some (.int)) ∈ al_w := in_w 322 (by rfl) rfl
theorem mw_323 : Cond.methodLink "ThrowFlow" 117 ⟨"ThrowFlow$Text", "hasInstruction", "(II)Z"⟩ ∈ al_w := in_w 323 (by decide +kernel) rfl
theorem mw_324 : Cond.instanceMethod ⟨"ThrowFlow$Text", "hasInstruction", "(II)Z"⟩ ∈ al_w := in_w 324 (by decide +kernel) rfl
theorem mw_325 : Cond.selects "ThrowFlow$Text" ⟨"ThrowFlow$Text", "hasInstruction", "(II)Z"⟩ ⟨"ThrowFlow$Text", "hasInstruction", "(II)Z"⟩ ∈ al_w := in_w 325 (by decide +kernel) rfl
set_option maxRecDepth 20000 in
theorem mw_326 : Cond.code ⟨"ThrowFlow$Text", "hasInstruction", "(II)Z"⟩ prog_6_method_5_code 3 (some (.boolean)) ∈ al_w := in_w 326 (by rfl) rfl
theorem mw_327 : Cond.methodLink "ThrowFlow$Text" 29 ⟨"ThrowFlow$Text", "hasMethod", "(I)Z"⟩ ∈ al_w := in_w 327 (by decide +kernel) rfl
theorem mw_328 : Cond.methodLink "ThrowFlow" 139 ⟨"ThrowFlow$Flow", "raisedAt", "(II)I"⟩ ∈ al_w := in_w 328 (by decide +kernel) rfl
theorem mw_329 : Cond.instanceMethod ⟨"ThrowFlow$Flow", "raisedAt", "(II)I"⟩ ∈ al_w := in_w 329 (by decide +kernel) rfl
theorem mw_330 : Cond.selects "ThrowFlow$Flow" ⟨"ThrowFlow$Flow", "raisedAt", "(II)I"⟩ ⟨"ThrowFlow$Flow", "raisedAt", "(II)I"⟩ ∈ al_w := in_w 330 (by decide +kernel) rfl
set_option maxRecDepth 20000 in
theorem mw_331 : Cond.code ⟨"ThrowFlow$Flow", "raisedAt", "(II)I"⟩ prog_3_method_6_code 3 (some (.int)) ∈ al_w := in_w 331 (by rfl) rfl
theorem mw_332 : Cond.methodLink "ThrowFlowLaw" 79 ⟨"ThrowFlow", "catches", "(II)I"⟩ ∈ al_w := in_w 332 (by decide +kernel) rfl
theorem mw_333 : Cond.instanceMethod ⟨"ThrowFlow", "catches", "(II)I"⟩ ∈ al_w := in_w 333 (by decide +kernel) rfl
theorem mw_334 : Cond.selects "ThrowFlow" ⟨"ThrowFlow", "catches", "(II)I"⟩ ⟨"ThrowFlow", "catches", "(II)I"⟩ ∈ al_w := in_w 334 (by decide +kernel) rfl
set_option maxRecDepth 20000 in
theorem mw_335 : Cond.code ⟨"ThrowFlow", "catches", "(II)I"⟩ prog_1_method_10_code 3 (some (.int)) ∈ al_w := in_w 335 (by rfl) rfl
theorem mw_336 : Cond.methodLink "ThrowFlow" 143 ⟨"ThrowFlow$Text", "hasHandler", "(II)Z"⟩ ∈ al_w := in_w 336 (by decide +kernel) rfl
theorem mw_337 : Cond.instanceMethod ⟨"ThrowFlow$Text", "hasHandler", "(II)Z"⟩ ∈ al_w := in_w 337 (by decide +kernel) rfl
theorem mw_338 : Cond.selects "ThrowFlow$Text" ⟨"ThrowFlow$Text", "hasHandler", "(II)Z"⟩ ⟨"ThrowFlow$Text", "hasHandler", "(II)Z"⟩ ∈ al_w := in_w 338 (by decide +kernel) rfl
set_option maxRecDepth 20000 in
theorem mw_339 : Cond.code ⟨"ThrowFlow$Text", "hasHandler", "(II)Z"⟩ prog_6_method_6_code 3 (some (.boolean)) ∈ al_w := in_w 339 (by rfl) rfl
theorem mw_340 : Cond.methodLink "ThrowFlow" 146 ⟨"ThrowFlow$Flow", "doorOf", "(II)I"⟩ ∈ al_w := in_w 340 (by decide +kernel) rfl
theorem mw_341 : Cond.methodLink "ThrowFlowLaw" 83 ⟨"ThrowFlow", "way", "(II)I"⟩ ∈ al_w := in_w 341 (by decide +kernel) rfl
theorem mw_342 : Cond.instanceMethod ⟨"ThrowFlow", "way", "(II)I"⟩ ∈ al_w := in_w 342 (by decide +kernel) rfl
theorem mw_343 : Cond.selects "ThrowFlow" ⟨"ThrowFlow", "way", "(II)I"⟩ ⟨"ThrowFlow", "way", "(II)I"⟩ ∈ al_w := in_w 343 (by decide +kernel) rfl
set_option maxRecDepth 20000 in
theorem mw_344 : Cond.code ⟨"ThrowFlow", "way", "(II)I"⟩ prog_1_method_11_code 3 (some (.int)) ∈ al_w := in_w 344 (by rfl) rfl
theorem mw_345 : Cond.methodLink "ThrowFlow" 149 ⟨"ThrowFlow$Flow", "wayLength", "(II)I"⟩ ∈ al_w := in_w 345 (by decide +kernel) rfl
theorem mw_346 : Cond.instanceMethod ⟨"ThrowFlow$Flow", "wayLength", "(II)I"⟩ ∈ al_w := in_w 346 (by decide +kernel) rfl
theorem mw_347 : Cond.selects "ThrowFlow$Flow" ⟨"ThrowFlow$Flow", "wayLength", "(II)I"⟩ ⟨"ThrowFlow$Flow", "wayLength", "(II)I"⟩ ∈ al_w := in_w 347 (by decide +kernel) rfl
set_option maxRecDepth 20000 in
theorem mw_348 : Cond.code ⟨"ThrowFlow$Flow", "wayLength", "(II)I"⟩ prog_3_method_7_code 4 (some (.int)) ∈ al_w := in_w 348 (by rfl) rfl
theorem mw_349 : Cond.methodLink "ThrowFlow$Flow" 39 ⟨"ThrowFlow$Text", "hasMethod", "(I)Z"⟩ ∈ al_w := in_w 349 (by decide +kernel) rfl
theorem mw_350 : Cond.methodLink "ThrowFlow$Flow" 49 ⟨"ThrowFlow$Kinds", "has", "(I)Z"⟩ ∈ al_w := in_w 350 (by decide +kernel) rfl
theorem mw_351 : Cond.methodLink "ThrowFlow$Flow" 58 ⟨"ThrowFlow$Flow", "nearest", "(II)I"⟩ ∈ al_w := in_w 351 (by decide +kernel) rfl
theorem mw_353 : Cond.instanceMethod ⟨"ThrowFlow$Flow", "nearest", "(II)I"⟩ ∈ al_w := in_w 353 (by decide +kernel) rfl
set_option maxRecDepth 20000 in
theorem mw_354 : Cond.code ⟨"ThrowFlow$Flow", "nearest", "(II)I"⟩ prog_3_method_9_code 9 (some (.int)) ∈ al_w := in_w 354 (by rfl) rfl
theorem mw_355 : Cond.methodLink "ThrowFlow$Flow" 61 ⟨"ThrowFlow$Flow", "lengthAt", "(III)I"⟩ ∈ al_w := in_w 355 (by decide +kernel) rfl
theorem mw_357 : Cond.instanceMethod ⟨"ThrowFlow$Flow", "lengthAt", "(III)I"⟩ ∈ al_w := in_w 357 (by decide +kernel) rfl
set_option maxRecDepth 20000 in
theorem mw_358 : Cond.code ⟨"ThrowFlow$Flow", "lengthAt", "(III)I"⟩ prog_3_method_10_code 6 (some (.int)) ∈ al_w := in_w 358 (by rfl) rfl
theorem mw_359 : Cond.methodLink "ThrowFlowLaw" 87 ⟨"ThrowFlow", "step", "(III)I"⟩ ∈ al_w := in_w 359 (by decide +kernel) rfl
theorem mw_360 : Cond.instanceMethod ⟨"ThrowFlow", "step", "(III)I"⟩ ∈ al_w := in_w 360 (by decide +kernel) rfl
theorem mw_361 : Cond.selects "ThrowFlow" ⟨"ThrowFlow", "step", "(III)I"⟩ ⟨"ThrowFlow", "step", "(III)I"⟩ ∈ al_w := in_w 361 (by decide +kernel) rfl
set_option maxRecDepth 20000 in
theorem mw_362 : Cond.code ⟨"ThrowFlow", "step", "(III)I"⟩ prog_1_method_12_code 5 (some (.int)) ∈ al_w := in_w 362 (by rfl) rfl
theorem mw_363 : Cond.methodLink "ThrowFlow" 152 ⟨"ThrowFlow$Flow", "wayPlace", "(III)I"⟩ ∈ al_w := in_w 363 (by decide +kernel) rfl
theorem mw_364 : Cond.instanceMethod ⟨"ThrowFlow$Flow", "wayPlace", "(III)I"⟩ ∈ al_w := in_w 364 (by decide +kernel) rfl
theorem mw_365 : Cond.selects "ThrowFlow$Flow" ⟨"ThrowFlow$Flow", "wayPlace", "(III)I"⟩ ⟨"ThrowFlow$Flow", "wayPlace", "(III)I"⟩ ∈ al_w := in_w 365 (by decide +kernel) rfl
set_option maxRecDepth 20000 in
theorem mw_366 : Cond.code ⟨"ThrowFlow$Flow", "wayPlace", "(III)I"⟩ prog_3_method_8_code 7 (some (.int)) ∈ al_w := in_w 366 (by rfl) rfl
theorem mw_367 : Cond.methodLink "ThrowFlowLaw" 95 ⟨"ThrowFlow", "spent", "()I"⟩ ∈ al_w := in_w 367 (by decide +kernel) rfl
theorem mw_368 : Cond.instanceMethod ⟨"ThrowFlow", "spent", "()I"⟩ ∈ al_w := in_w 368 (by decide +kernel) rfl
theorem mw_369 : Cond.selects "ThrowFlow" ⟨"ThrowFlow", "spent", "()I"⟩ ⟨"ThrowFlow", "spent", "()I"⟩ ∈ al_w := in_w 369 (by decide +kernel) rfl
set_option maxRecDepth 20000 in
theorem mw_370 : Cond.code ⟨"ThrowFlow", "spent", "()I"⟩ prog_1_method_14_code 1 (some (.int)) ∈ al_w := in_w 370 (by rfl) rfl
theorem mw_371 : Cond.methodLink "ThrowFlowLaw" 99 ⟨"ThrowFlow", "escaped", "()I"⟩ ∈ al_w := in_w 371 (by decide +kernel) rfl
theorem mw_372 : Cond.instanceMethod ⟨"ThrowFlow", "escaped", "()I"⟩ ∈ al_w := in_w 372 (by decide +kernel) rfl
theorem mw_373 : Cond.selects "ThrowFlow" ⟨"ThrowFlow", "escaped", "()I"⟩ ⟨"ThrowFlow", "escaped", "()I"⟩ ∈ al_w := in_w 373 (by decide +kernel) rfl
set_option maxRecDepth 20000 in
theorem mw_374 : Cond.code ⟨"ThrowFlow", "escaped", "()I"⟩ prog_1_method_15_code 1 (some (.int)) ∈ al_w := in_w 374 (by rfl) rfl
set_option maxRecDepth 20000 in
theorem mw_383 : Cond.code ⟨"ThrowFlow", "kind", "(I)I"⟩ prog_1_method_2_code 2 (some (.int)) ∈ al_w := in_w 383 (by rfl) rfl
theorem mw_384 : Cond.classLink "ThrowFlow" 42 "java/lang/IllegalArgumentException" ∈ al_w := in_w 384 (by decide +kernel) rfl
theorem mw_453 : Cond.methodLink "ThrowFlow" 49 ⟨"ThrowFlow$Kinds", "isFull", "()Z"⟩ ∈ al_w := in_w 453 (by decide +kernel) rfl
theorem mw_454 : Cond.instanceMethod ⟨"ThrowFlow$Kinds", "isFull", "()Z"⟩ ∈ al_w := in_w 454 (by decide +kernel) rfl
theorem mw_455 : Cond.selects "ThrowFlow$Kinds" ⟨"ThrowFlow$Kinds", "isFull", "()Z"⟩ ⟨"ThrowFlow$Kinds", "isFull", "()Z"⟩ ∈ al_w := in_w 455 (by decide +kernel) rfl
set_option maxRecDepth 20000 in
theorem mw_456 : Cond.code ⟨"ThrowFlow$Kinds", "isFull", "()Z"⟩ prog_4_method_3_code 1 (some (.boolean)) ∈ al_w := in_w 456 (by rfl) rfl
theorem mw_457 : Cond.classLink "ThrowFlow" 53 "java/lang/UnsupportedOperationException" ∈ al_w := in_w 457 (by decide +kernel) rfl
theorem mw_473 : Cond.methodLink "ThrowFlow" 58 ⟨"ThrowFlow$Kinds", "append", "(I)I"⟩ ∈ al_w := in_w 473 (by decide +kernel) rfl
theorem mw_474 : Cond.instanceMethod ⟨"ThrowFlow$Kinds", "append", "(I)I"⟩ ∈ al_w := in_w 474 (by decide +kernel) rfl
theorem mw_475 : Cond.selects "ThrowFlow$Kinds" ⟨"ThrowFlow$Kinds", "append", "(I)I"⟩ ⟨"ThrowFlow$Kinds", "append", "(I)I"⟩ ∈ al_w := in_w 475 (by decide +kernel) rfl
set_option maxRecDepth 20000 in
theorem mw_476 : Cond.code ⟨"ThrowFlow$Kinds", "append", "(I)I"⟩ prog_4_method_5_code 4 (some (.int)) ∈ al_w := in_w 476 (by rfl) rfl
theorem mw_477 : Cond.methodLink "ThrowFlow$Kinds" 19 ⟨"ThrowFlow$Kinds", "isOneOf", "(II)Z"⟩ ∈ al_w := in_w 477 (by decide +kernel) rfl
set_option maxRecDepth 20000 in
theorem mw_485 : Cond.code ⟨"ThrowFlow", "add", "(IIII)I"⟩ prog_1_method_5_code 6 (some (.int)) ∈ al_w := in_w 485 (by rfl) rfl
theorem mw_486 : Cond.classLink "ThrowFlow" 74 "java/lang/IndexOutOfBoundsException" ∈ al_w := in_w 486 (by decide +kernel) rfl
theorem mw_502 : Cond.methodLink "ThrowFlow" 83 ⟨"ThrowFlow$Body", "isFull", "()Z"⟩ ∈ al_w := in_w 502 (by decide +kernel) rfl
theorem mw_503 : Cond.instanceMethod ⟨"ThrowFlow$Body", "isFull", "()Z"⟩ ∈ al_w := in_w 503 (by decide +kernel) rfl
theorem mw_504 : Cond.selects "ThrowFlow$Body" ⟨"ThrowFlow$Body", "isFull", "()Z"⟩ ⟨"ThrowFlow$Body", "isFull", "()Z"⟩ ∈ al_w := in_w 504 (by decide +kernel) rfl
set_option maxRecDepth 20000 in
theorem mw_505 : Cond.code ⟨"ThrowFlow$Body", "isFull", "()Z"⟩ prog_2_method_2_code 1 (some (.boolean)) ∈ al_w := in_w 505 (by rfl) rfl
theorem mw_507 : Cond.methodLink "ThrowFlow" 88 ⟨"ThrowFlow$Text", "allows", "(III)Z"⟩ ∈ al_w := in_w 507 (by decide +kernel) rfl
theorem mw_508 : Cond.instanceMethod ⟨"ThrowFlow$Text", "allows", "(III)Z"⟩ ∈ al_w := in_w 508 (by decide +kernel) rfl
theorem mw_509 : Cond.selects "ThrowFlow$Text" ⟨"ThrowFlow$Text", "allows", "(III)Z"⟩ ⟨"ThrowFlow$Text", "allows", "(III)Z"⟩ ∈ al_w := in_w 509 (by decide +kernel) rfl
set_option maxRecDepth 20000 in
theorem mw_510 : Cond.code ⟨"ThrowFlow$Text", "allows", "(III)Z"⟩ prog_6_method_7_code 4 (some (.boolean)) ∈ al_w := in_w 510 (by rfl) rfl
theorem mw_511 : Cond.methodLink "ThrowFlow$Text" 39 ⟨"ThrowFlow$Text", "isRegister", "(I)Z"⟩ ∈ al_w := in_w 511 (by decide +kernel) rfl
theorem mw_512 : Cond.static ⟨"ThrowFlow$Text", "isRegister", "(I)Z"⟩ ∈ al_w := in_w 512 (by decide +kernel) rfl
set_option maxRecDepth 20000 in
theorem mw_513 : Cond.code ⟨"ThrowFlow$Text", "isRegister", "(I)Z"⟩ prog_6_method_9_code 1 (some (.boolean)) ∈ al_w := in_w 513 (by rfl) rfl
theorem mw_514 : Cond.methodLink "ThrowFlow$Text" 42 ⟨"ThrowFlow$Text", "isPlace", "(I)Z"⟩ ∈ al_w := in_w 514 (by decide +kernel) rfl
theorem mw_515 : Cond.static ⟨"ThrowFlow$Text", "isPlace", "(I)Z"⟩ ∈ al_w := in_w 515 (by decide +kernel) rfl
set_option maxRecDepth 20000 in
theorem mw_516 : Cond.code ⟨"ThrowFlow$Text", "isPlace", "(I)Z"⟩ prog_6_method_10_code 1 (some (.boolean)) ∈ al_w := in_w 516 (by rfl) rfl
theorem mw_517 : Cond.methodLink "ThrowFlow$Text" 45 ⟨"ThrowFlow$Kinds", "has", "(I)Z"⟩ ∈ al_w := in_w 517 (by decide +kernel) rfl
theorem mw_519 : Cond.methodLink "ThrowFlow" 98 ⟨"ThrowFlow$Body", "appendInstruction", "(III)I"⟩ ∈ al_w := in_w 519 (by decide +kernel) rfl
theorem mw_520 : Cond.instanceMethod ⟨"ThrowFlow$Body", "appendInstruction", "(III)I"⟩ ∈ al_w := in_w 520 (by decide +kernel) rfl
theorem mw_521 : Cond.selects "ThrowFlow$Body" ⟨"ThrowFlow$Body", "appendInstruction", "(III)I"⟩ ⟨"ThrowFlow$Body", "appendInstruction", "(III)I"⟩ ∈ al_w := in_w 521 (by decide +kernel) rfl
set_option maxRecDepth 20000 in
theorem mw_522 : Cond.code ⟨"ThrowFlow$Body", "appendInstruction", "(III)I"⟩ prog_2_method_4_code 5 (some (.int)) ∈ al_w := in_w 522 (by rfl) rfl
theorem mw_523 : Cond.methodLink "ThrowFlow$Body" 40 ⟨"ThrowFlow$Body", "put", "(IIII)V"⟩ ∈ al_w := in_w 523 (by decide +kernel) rfl
theorem mw_524 : Cond.instanceMethod ⟨"ThrowFlow$Body", "put", "(IIII)V"⟩ ∈ al_w := in_w 524 (by decide +kernel) rfl
theorem mw_525 : Cond.selects "ThrowFlow$Body" ⟨"ThrowFlow$Body", "put", "(IIII)V"⟩ ⟨"ThrowFlow$Body", "put", "(IIII)V"⟩ ∈ al_w := in_w 525 (by decide +kernel) rfl
set_option maxRecDepth 20000 in
theorem mw_526 : Cond.code ⟨"ThrowFlow$Body", "put", "(IIII)V"⟩ prog_2_method_5_code 5 none ∈ al_w := in_w 526 (by rfl) rfl
set_option maxRecDepth 20000 in
theorem mw_533 : Cond.code ⟨"ThrowFlow", "handler", "(IIIII)I"⟩ prog_1_method_6_code 7 (some (.int)) ∈ al_w := in_w 533 (by rfl) rfl
theorem mw_534 : Cond.methodLink "ThrowFlow" 102 ⟨"ThrowFlow$Body", "isFullOfHandlers", "()Z"⟩ ∈ al_w := in_w 534 (by decide +kernel) rfl
theorem mw_535 : Cond.instanceMethod ⟨"ThrowFlow$Body", "isFullOfHandlers", "()Z"⟩ ∈ al_w := in_w 535 (by decide +kernel) rfl
theorem mw_536 : Cond.selects "ThrowFlow$Body" ⟨"ThrowFlow$Body", "isFullOfHandlers", "()Z"⟩ ⟨"ThrowFlow$Body", "isFullOfHandlers", "()Z"⟩ ∈ al_w := in_w 536 (by decide +kernel) rfl
set_option maxRecDepth 20000 in
theorem mw_537 : Cond.code ⟨"ThrowFlow$Body", "isFullOfHandlers", "()Z"⟩ prog_2_method_3_code 1 (some (.boolean)) ∈ al_w := in_w 537 (by rfl) rfl
theorem mw_539 : Cond.methodLink "ThrowFlow" 107 ⟨"ThrowFlow$Text", "allowsHandler", "(IIII)Z"⟩ ∈ al_w := in_w 539 (by decide +kernel) rfl
theorem mw_540 : Cond.instanceMethod ⟨"ThrowFlow$Text", "allowsHandler", "(IIII)Z"⟩ ∈ al_w := in_w 540 (by decide +kernel) rfl
theorem mw_541 : Cond.selects "ThrowFlow$Text" ⟨"ThrowFlow$Text", "allowsHandler", "(IIII)Z"⟩ ⟨"ThrowFlow$Text", "allowsHandler", "(IIII)Z"⟩ ∈ al_w := in_w 541 (by decide +kernel) rfl
set_option maxRecDepth 20000 in
theorem mw_542 : Cond.code ⟨"ThrowFlow$Text", "allowsHandler", "(IIII)Z"⟩ prog_6_method_8_code 5 (some (.boolean)) ∈ al_w := in_w 542 (by rfl) rfl
theorem mw_544 : Cond.methodLink "ThrowFlow" 113 ⟨"ThrowFlow$Body", "appendHandler", "(IIII)I"⟩ ∈ al_w := in_w 544 (by decide +kernel) rfl
theorem mw_545 : Cond.instanceMethod ⟨"ThrowFlow$Body", "appendHandler", "(IIII)I"⟩ ∈ al_w := in_w 545 (by decide +kernel) rfl
theorem mw_546 : Cond.selects "ThrowFlow$Body" ⟨"ThrowFlow$Body", "appendHandler", "(IIII)I"⟩ ⟨"ThrowFlow$Body", "appendHandler", "(IIII)I"⟩ ∈ al_w := in_w 546 (by decide +kernel) rfl
set_option maxRecDepth 20000 in
theorem mw_547 : Cond.code ⟨"ThrowFlow$Body", "appendHandler", "(IIII)I"⟩ prog_2_method_6_code 6 (some (.int)) ∈ al_w := in_w 547 (by rfl) rfl
set_option maxRecDepth 20000 in
theorem mw_554 : Cond.code ⟨"ThrowFlow", "change", "(IIIII)I"⟩ prog_1_method_7_code 8 (some (.int)) ∈ al_w := in_w 554 (by rfl) rfl
theorem mw_556 : Cond.methodLink "ThrowFlow" 126 ⟨"ThrowFlow$Body", "put", "(IIII)V"⟩ ∈ al_w := in_w 556 (by decide +kernel) rfl
set_option maxRecDepth 20000 in
theorem mw_564 : Cond.code ⟨"ThrowFlow", "run", "(III)I"⟩ prog_1_method_13_code 4 (some (.int)) ∈ al_w := in_w 564 (by rfl) rfl
theorem mw_566 : Cond.methodLink "ThrowFlow" 157 ⟨"ThrowFlow$Machine", "start", "(III)V"⟩ ∈ al_w := in_w 566 (by decide +kernel) rfl
theorem mw_567 : Cond.instanceMethod ⟨"ThrowFlow$Machine", "start", "(III)V"⟩ ∈ al_w := in_w 567 (by decide +kernel) rfl
theorem mw_568 : Cond.selects "ThrowFlow$Machine" ⟨"ThrowFlow$Machine", "start", "(III)V"⟩ ⟨"ThrowFlow$Machine", "start", "(III)V"⟩ ∈ al_w := in_w 568 (by decide +kernel) rfl
set_option maxRecDepth 20000 in
theorem mw_569 : Cond.code ⟨"ThrowFlow$Machine", "start", "(III)V"⟩ prog_5_method_3_code 4 none ∈ al_w := in_w 569 (by rfl) rfl
theorem mw_570 : Cond.methodLink "ThrowFlow$Machine" 35 ⟨"ThrowFlow$Machine", "enter", "(II)V"⟩ ∈ al_w := in_w 570 (by decide +kernel) rfl
theorem mw_572 : Cond.instanceMethod ⟨"ThrowFlow$Machine", "enter", "(II)V"⟩ ∈ al_w := in_w 572 (by decide +kernel) rfl
set_option maxRecDepth 20000 in
theorem mw_573 : Cond.code ⟨"ThrowFlow$Machine", "enter", "(II)V"⟩ prog_5_method_4_code 5 none ∈ al_w := in_w 573 (by rfl) rfl
theorem mw_574 : Cond.methodLink "ThrowFlow$Machine" 39 ⟨"ThrowFlow$Machine", "giveAtEnds", "()V"⟩ ∈ al_w := in_w 574 (by decide +kernel) rfl
theorem mw_576 : Cond.instanceMethod ⟨"ThrowFlow$Machine", "giveAtEnds", "()V"⟩ ∈ al_w := in_w 576 (by decide +kernel) rfl
set_option maxRecDepth 20000 in
theorem mw_577 : Cond.code ⟨"ThrowFlow$Machine", "giveAtEnds", "()V"⟩ prog_5_method_5_code 2 none ∈ al_w := in_w 577 (by rfl) rfl
theorem mw_578 : Cond.methodLink "ThrowFlow$Machine" 48 ⟨"ThrowFlow$Machine", "isAtEnd", "()Z"⟩ ∈ al_w := in_w 578 (by decide +kernel) rfl
theorem mw_580 : Cond.instanceMethod ⟨"ThrowFlow$Machine", "isAtEnd", "()Z"⟩ ∈ al_w := in_w 580 (by decide +kernel) rfl
set_option maxRecDepth 20000 in
theorem mw_581 : Cond.code ⟨"ThrowFlow$Machine", "isAtEnd", "()Z"⟩ prog_5_method_6_code 1 (some (.boolean)) ∈ al_w := in_w 581 (by rfl) rfl
theorem mw_582 : Cond.methodLink "ThrowFlow$Machine" 60 ⟨"ThrowFlow$Machine", "body", "()LThrowFlow$Body;"⟩ ∈ al_w := in_w 582 (by decide +kernel) rfl
theorem mw_584 : Cond.instanceMethod ⟨"ThrowFlow$Machine", "body", "()LThrowFlow$Body;"⟩ ∈ al_w := in_w 584 (by decide +kernel) rfl
set_option maxRecDepth 20000 in
theorem mw_585 : Cond.code ⟨"ThrowFlow$Machine", "body", "()LThrowFlow$Body;"⟩ prog_5_method_7_code 1 (some (.object "ThrowFlow$Body")) ∈ al_w := in_w 585 (by rfl) rfl
theorem mw_586 : Cond.methodLink "ThrowFlow$Machine" 52 ⟨"ThrowFlow$Machine", "content", "(I)I"⟩ ∈ al_w := in_w 586 (by decide +kernel) rfl
theorem mw_588 : Cond.instanceMethod ⟨"ThrowFlow$Machine", "content", "(I)I"⟩ ∈ al_w := in_w 588 (by decide +kernel) rfl
set_option maxRecDepth 20000 in
theorem mw_589 : Cond.code ⟨"ThrowFlow$Machine", "content", "(I)I"⟩ prog_5_method_8_code 2 (some (.int)) ∈ al_w := in_w 589 (by rfl) rfl
theorem mw_590 : Cond.methodLink "ThrowFlow$Machine" 56 ⟨"ThrowFlow$Machine", "giveBack", "(I)V"⟩ ∈ al_w := in_w 590 (by decide +kernel) rfl
theorem mw_592 : Cond.instanceMethod ⟨"ThrowFlow$Machine", "giveBack", "(I)V"⟩ ∈ al_w := in_w 592 (by decide +kernel) rfl
set_option maxRecDepth 20000 in
theorem mw_593 : Cond.code ⟨"ThrowFlow$Machine", "giveBack", "(I)V"⟩ prog_5_method_15_code 2 none ∈ al_w := in_w 593 (by rfl) rfl
theorem mw_594 : Cond.methodLink "ThrowFlow$Machine" 84 ⟨"ThrowFlow$Machine", "become", "(II)V"⟩ ∈ al_w := in_w 594 (by decide +kernel) rfl
theorem mw_596 : Cond.instanceMethod ⟨"ThrowFlow$Machine", "become", "(II)V"⟩ ∈ al_w := in_w 596 (by decide +kernel) rfl
set_option maxRecDepth 20000 in
theorem mw_597 : Cond.code ⟨"ThrowFlow$Machine", "become", "(II)V"⟩ prog_5_method_12_code 3 none ∈ al_w := in_w 597 (by rfl) rfl
theorem mw_598 : Cond.methodLink "ThrowFlow$Machine" 102 ⟨"ThrowFlow$Machine", "goOn", "()V"⟩ ∈ al_w := in_w 598 (by decide +kernel) rfl
theorem mw_600 : Cond.instanceMethod ⟨"ThrowFlow$Machine", "goOn", "()V"⟩ ∈ al_w := in_w 600 (by decide +kernel) rfl
set_option maxRecDepth 20000 in
theorem mw_601 : Cond.code ⟨"ThrowFlow$Machine", "goOn", "()V"⟩ prog_5_method_11_code 1 none ∈ al_w := in_w 601 (by rfl) rfl
theorem mw_602 : Cond.methodLink "ThrowFlow$Machine" 45 ⟨"ThrowFlow$Machine", "doInstruction", "()V"⟩ ∈ al_w := in_w 602 (by decide +kernel) rfl
theorem mw_604 : Cond.instanceMethod ⟨"ThrowFlow$Machine", "doInstruction", "()V"⟩ ∈ al_w := in_w 604 (by decide +kernel) rfl
set_option maxRecDepth 20000 in
theorem mw_605 : Cond.code ⟨"ThrowFlow$Machine", "doInstruction", "()V"⟩ prog_5_method_9_code 5 none ∈ al_w := in_w 605 (by rfl) rfl
theorem mw_606 : Cond.methodLink "ThrowFlow$Machine" 87 ⟨"ThrowFlow$Machine", "divide", "(II)V"⟩ ∈ al_w := in_w 606 (by decide +kernel) rfl
theorem mw_608 : Cond.instanceMethod ⟨"ThrowFlow$Machine", "divide", "(II)V"⟩ ∈ al_w := in_w 608 (by decide +kernel) rfl
set_option maxRecDepth 20000 in
theorem mw_609 : Cond.code ⟨"ThrowFlow$Machine", "divide", "(II)V"⟩ prog_5_method_13_code 4 none ∈ al_w := in_w 609 (by rfl) rfl
theorem mw_610 : Cond.methodLink "ThrowFlow$Machine" 96 ⟨"ThrowFlow$Machine", "throwHere", "(I)V"⟩ ∈ al_w := in_w 610 (by decide +kernel) rfl
theorem mw_612 : Cond.instanceMethod ⟨"ThrowFlow$Machine", "throwHere", "(I)V"⟩ ∈ al_w := in_w 612 (by decide +kernel) rfl
set_option maxRecDepth 20000 in
theorem mw_613 : Cond.code ⟨"ThrowFlow$Machine", "throwHere", "(I)V"⟩ prog_5_method_17_code 4 none ∈ al_w := in_w 613 (by rfl) rfl
theorem mw_614 : Cond.methodLink "ThrowFlow$Machine" 116 ⟨"ThrowFlow$Body", "catcher", "(IILThrowFlow$Kinds;)I"⟩ ∈ al_w := in_w 614 (by decide +kernel) rfl
theorem mw_615 : Cond.methodLink "ThrowFlow$Machine" 90 ⟨"ThrowFlow$Machine", "goTo", "(I)V"⟩ ∈ al_w := in_w 615 (by decide +kernel) rfl
theorem mw_617 : Cond.instanceMethod ⟨"ThrowFlow$Machine", "goTo", "(I)V"⟩ ∈ al_w := in_w 617 (by decide +kernel) rfl
set_option maxRecDepth 20000 in
theorem mw_618 : Cond.code ⟨"ThrowFlow$Machine", "goTo", "(I)V"⟩ prog_5_method_10_code 2 none ∈ al_w := in_w 618 (by rfl) rfl
theorem mw_619 : Cond.methodLink "ThrowFlow$Machine" 93 ⟨"ThrowFlow$Machine", "callMethod", "(II)V"⟩ ∈ al_w := in_w 619 (by decide +kernel) rfl
theorem mw_621 : Cond.instanceMethod ⟨"ThrowFlow$Machine", "callMethod", "(II)V"⟩ ∈ al_w := in_w 621 (by decide +kernel) rfl
set_option maxRecDepth 20000 in
theorem mw_622 : Cond.code ⟨"ThrowFlow$Machine", "callMethod", "(II)V"⟩ prog_5_method_14_code 3 none ∈ al_w := in_w 622 (by rfl) rfl
theorem mw_623 : Cond.methodLink "ThrowFlow$Machine" 105 ⟨"ThrowFlow$Text", "hasMethod", "(I)Z"⟩ ∈ al_w := in_w 623 (by decide +kernel) rfl
theorem mw_624 : Cond.methodLink "ThrowFlow$Machine" 99 ⟨"ThrowFlow$Machine", "throwAgain", "(I)V"⟩ ∈ al_w := in_w 624 (by decide +kernel) rfl
theorem mw_626 : Cond.instanceMethod ⟨"ThrowFlow$Machine", "throwAgain", "(I)V"⟩ ∈ al_w := in_w 626 (by decide +kernel) rfl
set_option maxRecDepth 20000 in
theorem mw_627 : Cond.code ⟨"ThrowFlow$Machine", "throwAgain", "(I)V"⟩ prog_5_method_16_code 3 none ∈ al_w := in_w 627 (by rfl) rfl
theorem mw_628 : Cond.methodLink "ThrowFlow" 161 ⟨"ThrowFlow$Machine", "isUnderWay", "()Z"⟩ ∈ al_w := in_w 628 (by decide +kernel) rfl
theorem mw_629 : Cond.instanceMethod ⟨"ThrowFlow$Machine", "isUnderWay", "()Z"⟩ ∈ al_w := in_w 629 (by decide +kernel) rfl
theorem mw_630 : Cond.selects "ThrowFlow$Machine" ⟨"ThrowFlow$Machine", "isUnderWay", "()Z"⟩ ⟨"ThrowFlow$Machine", "isUnderWay", "()Z"⟩ ∈ al_w := in_w 630 (by decide +kernel) rfl
set_option maxRecDepth 20000 in
theorem mw_631 : Cond.code ⟨"ThrowFlow$Machine", "isUnderWay", "()Z"⟩ prog_5_method_2_code 1 (some (.boolean)) ∈ al_w := in_w 631 (by rfl) rfl
theorem mw_632 : Cond.classLink "ThrowFlow" 164 "java/lang/IllegalStateException" ∈ al_w := in_w 632 (by decide +kernel) rfl
theorem mw_655 : Cond.fieldLink "ThrowFlowModel" 66 "ThrowFlowModel" "thrown" "I" ∈ al_w := in_w 655 (by decide +kernel) rfl
theorem mw_656 : Cond.fieldLink "ThrowFlowModel" 7 "ThrowFlowModel" "kinds" "I" ∈ al_w := in_w 656 (by decide +kernel) rfl
theorem mw_657 : Cond.fieldLink "ThrowFlowModel" 13 "ThrowFlowModel" "parents" "[I" ∈ al_w := in_w 657 (by decide +kernel) rfl
theorem mw_658 : Cond.fieldLink "ThrowFlowModel" 77 "ThrowFlowModel" "methods" "I" ∈ al_w := in_w 658 (by decide +kernel) rfl
theorem mw_659 : Cond.fieldLink "ThrowFlowModel" 17 "ThrowFlowModel" "sizes" "[I" ∈ al_w := in_w 659 (by decide +kernel) rfl
theorem mw_660 : Cond.fieldLink "ThrowFlowModel" 20 "ThrowFlowModel" "codes" "[I" ∈ al_w := in_w 660 (by decide +kernel) rfl
theorem mw_661 : Cond.fieldLink "ThrowFlowModel" 23 "ThrowFlowModel" "firstNumbers" "[I" ∈ al_w := in_w 661 (by decide +kernel) rfl
theorem mw_662 : Cond.fieldLink "ThrowFlowModel" 26 "ThrowFlowModel" "secondNumbers" "[I" ∈ al_w := in_w 662 (by decide +kernel) rfl
theorem mw_663 : Cond.fieldLink "ThrowFlowModel" 29 "ThrowFlowModel" "handlers" "[I" ∈ al_w := in_w 663 (by decide +kernel) rfl
theorem mw_664 : Cond.fieldLink "ThrowFlowModel" 32 "ThrowFlowModel" "firsts" "[I" ∈ al_w := in_w 664 (by decide +kernel) rfl
theorem mw_665 : Cond.fieldLink "ThrowFlowModel" 35 "ThrowFlowModel" "lasts" "[I" ∈ al_w := in_w 665 (by decide +kernel) rfl
theorem mw_666 : Cond.fieldLink "ThrowFlowModel" 38 "ThrowFlowModel" "handled" "[I" ∈ al_w := in_w 666 (by decide +kernel) rfl
theorem mw_667 : Cond.fieldLink "ThrowFlowModel" 41 "ThrowFlowModel" "targets" "[I" ∈ al_w := in_w 667 (by decide +kernel) rfl
theorem mw_668 : Cond.fieldLink "ThrowFlowModel" 44 "ThrowFlowModel" "stale" "Z" ∈ al_w := in_w 668 (by decide +kernel) rfl
theorem mw_669 : Cond.fieldLink "ThrowFlowModel" 48 "ThrowFlowModel" "lengths" "[I" ∈ al_w := in_w 669 (by decide +kernel) rfl
theorem mw_670 : Cond.fieldLink "ThrowFlowModel" 129 "ThrowFlowModel" "frames" "I" ∈ al_w := in_w 670 (by decide +kernel) rfl
theorem mw_671 : Cond.fieldLink "ThrowFlowModel" 51 "ThrowFlowModel" "running" "[I" ∈ al_w := in_w 671 (by decide +kernel) rfl
theorem mw_672 : Cond.fieldLink "ThrowFlowModel" 54 "ThrowFlowModel" "places" "[I" ∈ al_w := in_w 672 (by decide +kernel) rfl
theorem mw_673 : Cond.fieldLink "ThrowFlowModel" 57 "ThrowFlowModel" "registers" "[I" ∈ al_w := in_w 673 (by decide +kernel) rfl
theorem mw_674 : Cond.fieldLink "ThrowFlowModel" 60 "ThrowFlowModel" "caught" "[I" ∈ al_w := in_w 674 (by decide +kernel) rfl
theorem mw_675 : Cond.fieldLink "ThrowFlowModel" 156 "ThrowFlowModel" "used" "I" ∈ al_w := in_w 675 (by decide +kernel) rfl
theorem mw_676 : Cond.fieldLink "ThrowFlowModel" 63 "ThrowFlowModel" "came" "I" ∈ al_w := in_w 676 (by decide +kernel) rfl
theorem mw_677 : Cond.fieldLink "ThrowFlowModel" 132 "ThrowFlowModel" "given" "I" ∈ al_w := in_w 677 (by decide +kernel) rfl
theorem mw_678 : Cond.lays "ThrowFlowModel" "ThrowFlowModel" "thrown" "I" ∈ al_w := in_w 678 (by decide +kernel) rfl
theorem mw_680 : Cond.lays "ThrowFlowModel" "ThrowFlowModel" "kinds" "I" ∈ al_w := in_w 680 (by decide +kernel) rfl
theorem mw_682 : Cond.laysFinal "ThrowFlowModel" "ThrowFlowModel" "parents" "[I" ∈ al_w := in_w 682 (by decide +kernel) rfl
theorem mw_684 : Cond.lays "ThrowFlowModel" "ThrowFlowModel" "methods" "I" ∈ al_w := in_w 684 (by decide +kernel) rfl
theorem mw_686 : Cond.laysFinal "ThrowFlowModel" "ThrowFlowModel" "sizes" "[I" ∈ al_w := in_w 686 (by decide +kernel) rfl
theorem mw_688 : Cond.laysFinal "ThrowFlowModel" "ThrowFlowModel" "codes" "[I" ∈ al_w := in_w 688 (by decide +kernel) rfl
theorem mw_690 : Cond.laysFinal "ThrowFlowModel" "ThrowFlowModel" "firstNumbers" "[I" ∈ al_w := in_w 690 (by decide +kernel) rfl
theorem mw_692 : Cond.laysFinal "ThrowFlowModel" "ThrowFlowModel" "secondNumbers" "[I" ∈ al_w := in_w 692 (by decide +kernel) rfl
theorem mw_694 : Cond.laysFinal "ThrowFlowModel" "ThrowFlowModel" "handlers" "[I" ∈ al_w := in_w 694 (by decide +kernel) rfl
theorem mw_696 : Cond.laysFinal "ThrowFlowModel" "ThrowFlowModel" "firsts" "[I" ∈ al_w := in_w 696 (by decide +kernel) rfl
theorem mw_698 : Cond.laysFinal "ThrowFlowModel" "ThrowFlowModel" "lasts" "[I" ∈ al_w := in_w 698 (by decide +kernel) rfl
theorem mw_700 : Cond.laysFinal "ThrowFlowModel" "ThrowFlowModel" "handled" "[I" ∈ al_w := in_w 700 (by decide +kernel) rfl
theorem mw_702 : Cond.laysFinal "ThrowFlowModel" "ThrowFlowModel" "targets" "[I" ∈ al_w := in_w 702 (by decide +kernel) rfl
theorem mw_704 : Cond.lays "ThrowFlowModel" "ThrowFlowModel" "stale" "Z" ∈ al_w := in_w 704 (by decide +kernel) rfl
theorem mw_706 : Cond.laysFinal "ThrowFlowModel" "ThrowFlowModel" "lengths" "[I" ∈ al_w := in_w 706 (by decide +kernel) rfl
theorem mw_708 : Cond.lays "ThrowFlowModel" "ThrowFlowModel" "frames" "I" ∈ al_w := in_w 708 (by decide +kernel) rfl
theorem mw_710 : Cond.laysFinal "ThrowFlowModel" "ThrowFlowModel" "running" "[I" ∈ al_w := in_w 710 (by decide +kernel) rfl
theorem mw_712 : Cond.laysFinal "ThrowFlowModel" "ThrowFlowModel" "places" "[I" ∈ al_w := in_w 712 (by decide +kernel) rfl
theorem mw_714 : Cond.laysFinal "ThrowFlowModel" "ThrowFlowModel" "registers" "[I" ∈ al_w := in_w 714 (by decide +kernel) rfl
theorem mw_716 : Cond.laysFinal "ThrowFlowModel" "ThrowFlowModel" "caught" "[I" ∈ al_w := in_w 716 (by decide +kernel) rfl
theorem mw_718 : Cond.lays "ThrowFlowModel" "ThrowFlowModel" "used" "I" ∈ al_w := in_w 718 (by decide +kernel) rfl
theorem mw_720 : Cond.lays "ThrowFlowModel" "ThrowFlowModel" "came" "I" ∈ al_w := in_w 720 (by decide +kernel) rfl
theorem mw_722 : Cond.lays "ThrowFlowModel" "ThrowFlowModel" "given" "I" ∈ al_w := in_w 722 (by decide +kernel) rfl
theorem mw_725 : Cond.methodLink "ThrowFlowLaw" 46 ⟨"ThrowFlowModel", "thrown", "()I"⟩ ∈ al_w := in_w 725 (by decide +kernel) rfl
theorem mw_726 : Cond.instanceMethod ⟨"ThrowFlowModel", "thrown", "()I"⟩ ∈ al_w := in_w 726 (by decide +kernel) rfl
theorem mw_727 : Cond.selects "ThrowFlowModel" ⟨"ThrowFlowModel", "thrown", "()I"⟩ ⟨"ThrowFlowModel", "thrown", "()I"⟩ ∈ al_w := in_w 727 (by decide +kernel) rfl
set_option maxRecDepth 20000 in
theorem mw_728 : Cond.code ⟨"ThrowFlowModel", "thrown", "()I"⟩ prog_8_method_2_code 1 (some (.int)) ∈ al_w := in_w 728 (by rfl) rfl
theorem mw_729 : Cond.methodLink "ThrowFlowLaw" 45 ⟨"ThrowFlowModel", "kind", "(I)I"⟩ ∈ al_w := in_w 729 (by decide +kernel) rfl
theorem mw_730 : Cond.instanceMethod ⟨"ThrowFlowModel", "kind", "(I)I"⟩ ∈ al_w := in_w 730 (by decide +kernel) rfl
theorem mw_731 : Cond.selects "ThrowFlowModel" ⟨"ThrowFlowModel", "kind", "(I)I"⟩ ⟨"ThrowFlowModel", "kind", "(I)I"⟩ ∈ al_w := in_w 731 (by decide +kernel) rfl
set_option maxRecDepth 20000 in
theorem mw_732 : Cond.code ⟨"ThrowFlowModel", "kind", "(I)I"⟩ prog_8_method_5_code 2 (some (.int)) ∈ al_w := in_w 732 (by rfl) rfl
theorem mw_733 : Cond.methodLink "ThrowFlowModel" 69 ⟨"ThrowFlowModel", "isKind", "(I)Z"⟩ ∈ al_w := in_w 733 (by decide +kernel) rfl
theorem mw_735 : Cond.instanceMethod ⟨"ThrowFlowModel", "isKind", "(I)Z"⟩ ∈ al_w := in_w 735 (by decide +kernel) rfl
set_option maxRecDepth 20000 in
theorem mw_736 : Cond.code ⟨"ThrowFlowModel", "isKind", "(I)Z"⟩ prog_8_method_3_code 2 (some (.boolean)) ∈ al_w := in_w 736 (by rfl) rfl
theorem mw_737 : Cond.methodLink "ThrowFlowLaw" 54 ⟨"ThrowFlowModel", "is", "(II)Z"⟩ ∈ al_w := in_w 737 (by decide +kernel) rfl
theorem mw_738 : Cond.instanceMethod ⟨"ThrowFlowModel", "is", "(II)Z"⟩ ∈ al_w := in_w 738 (by decide +kernel) rfl
theorem mw_739 : Cond.selects "ThrowFlowModel" ⟨"ThrowFlowModel", "is", "(II)Z"⟩ ⟨"ThrowFlowModel", "is", "(II)Z"⟩ ∈ al_w := in_w 739 (by decide +kernel) rfl
set_option maxRecDepth 20000 in
theorem mw_740 : Cond.code ⟨"ThrowFlowModel", "is", "(II)Z"⟩ prog_8_method_6_code 3 (some (.boolean)) ∈ al_w := in_w 740 (by rfl) rfl
theorem mw_741 : Cond.methodLink "ThrowFlowModel" 73 ⟨"ThrowFlowModel", "isOne", "(II)Z"⟩ ∈ al_w := in_w 741 (by decide +kernel) rfl
theorem mw_743 : Cond.instanceMethod ⟨"ThrowFlowModel", "isOne", "(II)Z"⟩ ∈ al_w := in_w 743 (by decide +kernel) rfl
set_option maxRecDepth 20000 in
theorem mw_744 : Cond.code ⟨"ThrowFlowModel", "isOne", "(II)Z"⟩ prog_8_method_4_code 4 (some (.boolean)) ∈ al_w := in_w 744 (by rfl) rfl
theorem mw_745 : Cond.methodLink "ThrowFlowLaw" 58 ⟨"ThrowFlowModel", "method", "()I"⟩ ∈ al_w := in_w 745 (by decide +kernel) rfl
theorem mw_746 : Cond.instanceMethod ⟨"ThrowFlowModel", "method", "()I"⟩ ∈ al_w := in_w 746 (by decide +kernel) rfl
theorem mw_747 : Cond.selects "ThrowFlowModel" ⟨"ThrowFlowModel", "method", "()I"⟩ ⟨"ThrowFlowModel", "method", "()I"⟩ ∈ al_w := in_w 747 (by decide +kernel) rfl
set_option maxRecDepth 20000 in
theorem mw_748 : Cond.code ⟨"ThrowFlowModel", "method", "()I"⟩ prog_8_method_9_code 1 (some (.int)) ∈ al_w := in_w 748 (by rfl) rfl
theorem mw_749 : Cond.methodLink "ThrowFlowLaw" 62 ⟨"ThrowFlowModel", "add", "(IIII)I"⟩ ∈ al_w := in_w 749 (by decide +kernel) rfl
theorem mw_750 : Cond.instanceMethod ⟨"ThrowFlowModel", "add", "(IIII)I"⟩ ∈ al_w := in_w 750 (by decide +kernel) rfl
theorem mw_751 : Cond.selects "ThrowFlowModel" ⟨"ThrowFlowModel", "add", "(IIII)I"⟩ ⟨"ThrowFlowModel", "add", "(IIII)I"⟩ ∈ al_w := in_w 751 (by decide +kernel) rfl
set_option maxRecDepth 20000 in
theorem mw_752 : Cond.code ⟨"ThrowFlowModel", "add", "(IIII)I"⟩ prog_8_method_13_code 6 (some (.int)) ∈ al_w := in_w 752 (by rfl) rfl
theorem mw_753 : Cond.methodLink "ThrowFlowModel" 80 ⟨"ThrowFlowModel", "isMethod", "(I)Z"⟩ ∈ al_w := in_w 753 (by decide +kernel) rfl
theorem mw_755 : Cond.instanceMethod ⟨"ThrowFlowModel", "isMethod", "(I)Z"⟩ ∈ al_w := in_w 755 (by decide +kernel) rfl
set_option maxRecDepth 20000 in
theorem mw_756 : Cond.code ⟨"ThrowFlowModel", "isMethod", "(I)Z"⟩ prog_8_method_7_code 2 (some (.boolean)) ∈ al_w := in_w 756 (by rfl) rfl
theorem mw_757 : Cond.methodLink "ThrowFlowModel" 86 ⟨"ThrowFlowModel", "fits", "(III)Z"⟩ ∈ al_w := in_w 757 (by decide +kernel) rfl
theorem mw_759 : Cond.instanceMethod ⟨"ThrowFlowModel", "fits", "(III)Z"⟩ ∈ al_w := in_w 759 (by decide +kernel) rfl
set_option maxRecDepth 20000 in
theorem mw_760 : Cond.code ⟨"ThrowFlowModel", "fits", "(III)Z"⟩ prog_8_method_11_code 4 (some (.boolean)) ∈ al_w := in_w 760 (by rfl) rfl
theorem mw_761 : Cond.methodLink "ThrowFlowModel" 83 ⟨"ThrowFlowModel", "isIn", "(II)Z"⟩ ∈ al_w := in_w 761 (by decide +kernel) rfl
theorem mw_762 : Cond.static ⟨"ThrowFlowModel", "isIn", "(II)Z"⟩ ∈ al_w := in_w 762 (by decide +kernel) rfl
set_option maxRecDepth 20000 in
theorem mw_763 : Cond.code ⟨"ThrowFlowModel", "isIn", "(II)Z"⟩ prog_8_method_10_code 2 (some (.boolean)) ∈ al_w := in_w 763 (by rfl) rfl
theorem mw_764 : Cond.methodLink "ThrowFlowModel" 90 ⟨"ThrowFlowModel", "write", "(IIIII)V"⟩ ∈ al_w := in_w 764 (by decide +kernel) rfl
theorem mw_766 : Cond.instanceMethod ⟨"ThrowFlowModel", "write", "(IIIII)V"⟩ ∈ al_w := in_w 766 (by decide +kernel) rfl
set_option maxRecDepth 20000 in
theorem mw_767 : Cond.code ⟨"ThrowFlowModel", "write", "(IIIII)V"⟩ prog_8_method_12_code 6 none ∈ al_w := in_w 767 (by rfl) rfl
theorem mw_768 : Cond.methodLink "ThrowFlowLaw" 66 ⟨"ThrowFlowModel", "handler", "(IIIII)I"⟩ ∈ al_w := in_w 768 (by decide +kernel) rfl
theorem mw_769 : Cond.instanceMethod ⟨"ThrowFlowModel", "handler", "(IIIII)I"⟩ ∈ al_w := in_w 769 (by decide +kernel) rfl
theorem mw_770 : Cond.selects "ThrowFlowModel" ⟨"ThrowFlowModel", "handler", "(IIIII)I"⟩ ⟨"ThrowFlowModel", "handler", "(IIIII)I"⟩ ∈ al_w := in_w 770 (by decide +kernel) rfl
set_option maxRecDepth 20000 in
theorem mw_771 : Cond.code ⟨"ThrowFlowModel", "handler", "(IIIII)I"⟩ prog_8_method_14_code 9 (some (.int)) ∈ al_w := in_w 771 (by rfl) rfl
theorem mw_772 : Cond.methodLink "ThrowFlowLaw" 69 ⟨"ThrowFlowModel", "change", "(IIIII)I"⟩ ∈ al_w := in_w 772 (by decide +kernel) rfl
theorem mw_773 : Cond.instanceMethod ⟨"ThrowFlowModel", "change", "(IIIII)I"⟩ ∈ al_w := in_w 773 (by decide +kernel) rfl
theorem mw_774 : Cond.selects "ThrowFlowModel" ⟨"ThrowFlowModel", "change", "(IIIII)I"⟩ ⟨"ThrowFlowModel", "change", "(IIIII)I"⟩ ∈ al_w := in_w 774 (by decide +kernel) rfl
set_option maxRecDepth 20000 in
theorem mw_775 : Cond.code ⟨"ThrowFlowModel", "change", "(IIIII)I"⟩ prog_8_method_15_code 7 (some (.int)) ∈ al_w := in_w 775 (by rfl) rfl
theorem mw_776 : Cond.methodLink "ThrowFlowModel" 94 ⟨"ThrowFlowModel", "isPlace", "(II)Z"⟩ ∈ al_w := in_w 776 (by decide +kernel) rfl
theorem mw_778 : Cond.instanceMethod ⟨"ThrowFlowModel", "isPlace", "(II)Z"⟩ ∈ al_w := in_w 778 (by decide +kernel) rfl
set_option maxRecDepth 20000 in
theorem mw_779 : Cond.code ⟨"ThrowFlowModel", "isPlace", "(II)Z"⟩ prog_8_method_8_code 3 (some (.boolean)) ∈ al_w := in_w 779 (by rfl) rfl
theorem mw_780 : Cond.methodLink "ThrowFlowLaw" 73 ⟨"ThrowFlowModel", "out", "(I)I"⟩ ∈ al_w := in_w 780 (by decide +kernel) rfl
theorem mw_781 : Cond.instanceMethod ⟨"ThrowFlowModel", "out", "(I)I"⟩ ∈ al_w := in_w 781 (by decide +kernel) rfl
theorem mw_782 : Cond.selects "ThrowFlowModel" ⟨"ThrowFlowModel", "out", "(I)I"⟩ ⟨"ThrowFlowModel", "out", "(I)I"⟩ ∈ al_w := in_w 782 (by decide +kernel) rfl
set_option maxRecDepth 20000 in
theorem mw_783 : Cond.code ⟨"ThrowFlowModel", "out", "(I)I"⟩ prog_8_method_23_code 2 (some (.int)) ∈ al_w := in_w 783 (by rfl) rfl
theorem mw_784 : Cond.methodLink "ThrowFlowModel" 112 ⟨"ThrowFlowModel", "settle", "()V"⟩ ∈ al_w := in_w 784 (by decide +kernel) rfl
theorem mw_786 : Cond.instanceMethod ⟨"ThrowFlowModel", "settle", "()V"⟩ ∈ al_w := in_w 786 (by decide +kernel) rfl
set_option maxRecDepth 20000 in
theorem mw_787 : Cond.code ⟨"ThrowFlowModel", "settle", "()V"⟩ prog_8_method_20_code 2 none ∈ al_w := in_w 787 (by rfl) rfl
theorem mw_788 : Cond.constant "ThrowFlowModel" 97 1000000 ∈ al_w := in_w 788 (by decide +kernel) rfl
theorem mw_789 : Cond.methodLink "ThrowFlowModel" 108 ⟨"ThrowFlowModel", "lower", "()Z"⟩ ∈ al_w := in_w 789 (by decide +kernel) rfl
theorem mw_791 : Cond.instanceMethod ⟨"ThrowFlowModel", "lower", "()Z"⟩ ∈ al_w := in_w 791 (by decide +kernel) rfl
set_option maxRecDepth 20000 in
theorem mw_792 : Cond.code ⟨"ThrowFlowModel", "lower", "()Z"⟩ prog_8_method_19_code 7 (some (.boolean)) ∈ al_w := in_w 792 (by rfl) rfl
theorem mw_793 : Cond.methodLink "ThrowFlowModel" 105 ⟨"ThrowFlowModel", "reckon", "(III)I"⟩ ∈ al_w := in_w 793 (by decide +kernel) rfl
theorem mw_795 : Cond.instanceMethod ⟨"ThrowFlowModel", "reckon", "(III)I"⟩ ∈ al_w := in_w 795 (by decide +kernel) rfl
set_option maxRecDepth 20000 in
theorem mw_796 : Cond.code ⟨"ThrowFlowModel", "reckon", "(III)I"⟩ prog_8_method_18_code 6 (some (.int)) ∈ al_w := in_w 796 (by rfl) rfl
theorem mw_797 : Cond.methodLink "ThrowFlowModel" 102 ⟨"ThrowFlowModel", "nearest", "(III)I"⟩ ∈ al_w := in_w 797 (by decide +kernel) rfl
theorem mw_799 : Cond.instanceMethod ⟨"ThrowFlowModel", "nearest", "(III)I"⟩ ∈ al_w := in_w 799 (by decide +kernel) rfl
set_option maxRecDepth 20000 in
theorem mw_800 : Cond.code ⟨"ThrowFlowModel", "nearest", "(III)I"⟩ prog_8_method_17_code 7 (some (.int)) ∈ al_w := in_w 800 (by rfl) rfl
theorem mw_801 : Cond.methodLink "ThrowFlowModel" 98 ⟨"ThrowFlowModel", "catcher", "(III)I"⟩ ∈ al_w := in_w 801 (by decide +kernel) rfl
theorem mw_803 : Cond.instanceMethod ⟨"ThrowFlowModel", "catcher", "(III)I"⟩ ∈ al_w := in_w 803 (by decide +kernel) rfl
set_option maxRecDepth 20000 in
theorem mw_804 : Cond.code ⟨"ThrowFlowModel", "catcher", "(III)I"⟩ prog_8_method_16_code 6 (some (.int)) ∈ al_w := in_w 804 (by rfl) rfl
theorem mw_805 : Cond.methodLink "ThrowFlowModel" 115 ⟨"ThrowFlowModel", "where", "(II)I"⟩ ∈ al_w := in_w 805 (by decide +kernel) rfl
theorem mw_807 : Cond.instanceMethod ⟨"ThrowFlowModel", "where", "(II)I"⟩ ∈ al_w := in_w 807 (by decide +kernel) rfl
set_option maxRecDepth 20000 in
theorem mw_808 : Cond.code ⟨"ThrowFlowModel", "where", "(II)I"⟩ prog_8_method_22_code 5 (some (.int)) ∈ al_w := in_w 808 (by rfl) rfl
theorem mw_809 : Cond.methodLink "ThrowFlowLaw" 78 ⟨"ThrowFlowModel", "raises", "(II)I"⟩ ∈ al_w := in_w 809 (by decide +kernel) rfl
theorem mw_810 : Cond.instanceMethod ⟨"ThrowFlowModel", "raises", "(II)I"⟩ ∈ al_w := in_w 810 (by decide +kernel) rfl
theorem mw_811 : Cond.selects "ThrowFlowModel" ⟨"ThrowFlowModel", "raises", "(II)I"⟩ ⟨"ThrowFlowModel", "raises", "(II)I"⟩ ∈ al_w := in_w 811 (by decide +kernel) rfl
set_option maxRecDepth 20000 in
theorem mw_812 : Cond.code ⟨"ThrowFlowModel", "raises", "(II)I"⟩ prog_8_method_24_code 3 (some (.int)) ∈ al_w := in_w 812 (by rfl) rfl
theorem mw_813 : Cond.methodLink "ThrowFlowModel" 119 ⟨"ThrowFlowModel", "raisedAt", "(II)I"⟩ ∈ al_w := in_w 813 (by decide +kernel) rfl
theorem mw_815 : Cond.instanceMethod ⟨"ThrowFlowModel", "raisedAt", "(II)I"⟩ ∈ al_w := in_w 815 (by decide +kernel) rfl
set_option maxRecDepth 20000 in
theorem mw_816 : Cond.code ⟨"ThrowFlowModel", "raisedAt", "(II)I"⟩ prog_8_method_21_code 5 (some (.int)) ∈ al_w := in_w 816 (by rfl) rfl
theorem mw_817 : Cond.methodLink "ThrowFlowLaw" 82 ⟨"ThrowFlowModel", "catches", "(II)I"⟩ ∈ al_w := in_w 817 (by decide +kernel) rfl
theorem mw_818 : Cond.instanceMethod ⟨"ThrowFlowModel", "catches", "(II)I"⟩ ∈ al_w := in_w 818 (by decide +kernel) rfl
theorem mw_819 : Cond.selects "ThrowFlowModel" ⟨"ThrowFlowModel", "catches", "(II)I"⟩ ⟨"ThrowFlowModel", "catches", "(II)I"⟩ ∈ al_w := in_w 819 (by decide +kernel) rfl
set_option maxRecDepth 20000 in
theorem mw_820 : Cond.code ⟨"ThrowFlowModel", "catches", "(II)I"⟩ prog_8_method_25_code 3 (some (.int)) ∈ al_w := in_w 820 (by rfl) rfl
theorem mw_821 : Cond.methodLink "ThrowFlowLaw" 86 ⟨"ThrowFlowModel", "way", "(II)I"⟩ ∈ al_w := in_w 821 (by decide +kernel) rfl
theorem mw_822 : Cond.instanceMethod ⟨"ThrowFlowModel", "way", "(II)I"⟩ ∈ al_w := in_w 822 (by decide +kernel) rfl
theorem mw_823 : Cond.selects "ThrowFlowModel" ⟨"ThrowFlowModel", "way", "(II)I"⟩ ⟨"ThrowFlowModel", "way", "(II)I"⟩ ∈ al_w := in_w 823 (by decide +kernel) rfl
set_option maxRecDepth 20000 in
theorem mw_824 : Cond.code ⟨"ThrowFlowModel", "way", "(II)I"⟩ prog_8_method_27_code 3 (some (.int)) ∈ al_w := in_w 824 (by rfl) rfl
theorem mw_825 : Cond.methodLink "ThrowFlowModel" 122 ⟨"ThrowFlowModel", "wayOf", "(II)I"⟩ ∈ al_w := in_w 825 (by decide +kernel) rfl
theorem mw_827 : Cond.instanceMethod ⟨"ThrowFlowModel", "wayOf", "(II)I"⟩ ∈ al_w := in_w 827 (by decide +kernel) rfl
set_option maxRecDepth 20000 in
theorem mw_828 : Cond.code ⟨"ThrowFlowModel", "wayOf", "(II)I"⟩ prog_8_method_26_code 4 (some (.int)) ∈ al_w := in_w 828 (by rfl) rfl
theorem mw_829 : Cond.methodLink "ThrowFlowLaw" 90 ⟨"ThrowFlowModel", "step", "(III)I"⟩ ∈ al_w := in_w 829 (by decide +kernel) rfl
theorem mw_830 : Cond.instanceMethod ⟨"ThrowFlowModel", "step", "(III)I"⟩ ∈ al_w := in_w 830 (by decide +kernel) rfl
theorem mw_831 : Cond.selects "ThrowFlowModel" ⟨"ThrowFlowModel", "step", "(III)I"⟩ ⟨"ThrowFlowModel", "step", "(III)I"⟩ ∈ al_w := in_w 831 (by decide +kernel) rfl
set_option maxRecDepth 20000 in
theorem mw_832 : Cond.code ⟨"ThrowFlowModel", "step", "(III)I"⟩ prog_8_method_29_code 10 (some (.int)) ∈ al_w := in_w 832 (by rfl) rfl
theorem mw_833 : Cond.methodLink "ThrowFlowModel" 125 ⟨"ThrowFlowModel", "firstWith", "(IIII)I"⟩ ∈ al_w := in_w 833 (by decide +kernel) rfl
theorem mw_835 : Cond.instanceMethod ⟨"ThrowFlowModel", "firstWith", "(IIII)I"⟩ ∈ al_w := in_w 835 (by decide +kernel) rfl
set_option maxRecDepth 20000 in
theorem mw_836 : Cond.code ⟨"ThrowFlowModel", "firstWith", "(IIII)I"⟩ prog_8_method_28_code 7 (some (.int)) ∈ al_w := in_w 836 (by rfl) rfl
theorem mw_837 : Cond.methodLink "ThrowFlowLaw" 94 ⟨"ThrowFlowModel", "run", "(III)I"⟩ ∈ al_w := in_w 837 (by decide +kernel) rfl
theorem mw_838 : Cond.instanceMethod ⟨"ThrowFlowModel", "run", "(III)I"⟩ ∈ al_w := in_w 838 (by decide +kernel) rfl
theorem mw_839 : Cond.selects "ThrowFlowModel" ⟨"ThrowFlowModel", "run", "(III)I"⟩ ⟨"ThrowFlowModel", "run", "(III)I"⟩ ∈ al_w := in_w 839 (by decide +kernel) rfl
set_option maxRecDepth 20000 in
theorem mw_840 : Cond.code ⟨"ThrowFlowModel", "run", "(III)I"⟩ prog_8_method_37_code 6 (some (.int)) ∈ al_w := in_w 840 (by rfl) rfl
theorem mw_841 : Cond.methodLink "ThrowFlowModel" 139 ⟨"ThrowFlowModel", "enter", "(II)V"⟩ ∈ al_w := in_w 841 (by decide +kernel) rfl
theorem mw_843 : Cond.instanceMethod ⟨"ThrowFlowModel", "enter", "(II)V"⟩ ∈ al_w := in_w 843 (by decide +kernel) rfl
set_option maxRecDepth 20000 in
theorem mw_844 : Cond.code ⟨"ThrowFlowModel", "enter", "(II)V"⟩ prog_8_method_30_code 4 none ∈ al_w := in_w 844 (by rfl) rfl
theorem mw_845 : Cond.methodLink "ThrowFlowModel" 153 ⟨"ThrowFlowModel", "leave", "(I)V"⟩ ∈ al_w := in_w 845 (by decide +kernel) rfl
theorem mw_847 : Cond.instanceMethod ⟨"ThrowFlowModel", "leave", "(I)V"⟩ ∈ al_w := in_w 847 (by decide +kernel) rfl
set_option maxRecDepth 20000 in
theorem mw_848 : Cond.code ⟨"ThrowFlowModel", "leave", "(I)V"⟩ prog_8_method_31_code 4 none ∈ al_w := in_w 848 (by rfl) rfl
theorem mw_849 : Cond.methodLink "ThrowFlowModel" 159 ⟨"ThrowFlowModel", "act", "()V"⟩ ∈ al_w := in_w 849 (by decide +kernel) rfl
theorem mw_851 : Cond.instanceMethod ⟨"ThrowFlowModel", "act", "()V"⟩ ∈ al_w := in_w 851 (by decide +kernel) rfl
set_option maxRecDepth 20000 in
theorem mw_852 : Cond.code ⟨"ThrowFlowModel", "act", "()V"⟩ prog_8_method_36_code 5 none ∈ al_w := in_w 852 (by rfl) rfl
theorem mw_853 : Cond.methodLink "ThrowFlowModel" 143 ⟨"ThrowFlowModel", "divide", "(III)V"⟩ ∈ al_w := in_w 853 (by decide +kernel) rfl
theorem mw_855 : Cond.instanceMethod ⟨"ThrowFlowModel", "divide", "(III)V"⟩ ∈ al_w := in_w 855 (by decide +kernel) rfl
set_option maxRecDepth 20000 in
theorem mw_856 : Cond.code ⟨"ThrowFlowModel", "divide", "(III)V"⟩ prog_8_method_34_code 5 none ∈ al_w := in_w 856 (by rfl) rfl
theorem mw_857 : Cond.methodLink "ThrowFlowModel" 135 ⟨"ThrowFlowModel", "raise", "(I)V"⟩ ∈ al_w := in_w 857 (by decide +kernel) rfl
theorem mw_859 : Cond.instanceMethod ⟨"ThrowFlowModel", "raise", "(I)V"⟩ ∈ al_w := in_w 859 (by decide +kernel) rfl
set_option maxRecDepth 20000 in
theorem mw_860 : Cond.code ⟨"ThrowFlowModel", "raise", "(I)V"⟩ prog_8_method_32_code 6 none ∈ al_w := in_w 860 (by rfl) rfl
theorem mw_861 : Cond.methodLink "ThrowFlowModel" 147 ⟨"ThrowFlowModel", "call", "(III)V"⟩ ∈ al_w := in_w 861 (by decide +kernel) rfl
theorem mw_863 : Cond.instanceMethod ⟨"ThrowFlowModel", "call", "(III)V"⟩ ∈ al_w := in_w 863 (by decide +kernel) rfl
set_option maxRecDepth 20000 in
theorem mw_864 : Cond.code ⟨"ThrowFlowModel", "call", "(III)V"⟩ prog_8_method_33_code 4 none ∈ al_w := in_w 864 (by rfl) rfl
theorem mw_865 : Cond.methodLink "ThrowFlowModel" 150 ⟨"ThrowFlowModel", "again", "(II)V"⟩ ∈ al_w := in_w 865 (by decide +kernel) rfl
theorem mw_867 : Cond.instanceMethod ⟨"ThrowFlowModel", "again", "(II)V"⟩ ∈ al_w := in_w 867 (by decide +kernel) rfl
set_option maxRecDepth 20000 in
theorem mw_868 : Cond.code ⟨"ThrowFlowModel", "again", "(II)V"⟩ prog_8_method_35_code 3 none ∈ al_w := in_w 868 (by rfl) rfl
theorem mw_869 : Cond.methodLink "ThrowFlowLaw" 98 ⟨"ThrowFlowModel", "spent", "()I"⟩ ∈ al_w := in_w 869 (by decide +kernel) rfl
theorem mw_870 : Cond.instanceMethod ⟨"ThrowFlowModel", "spent", "()I"⟩ ∈ al_w := in_w 870 (by decide +kernel) rfl
theorem mw_871 : Cond.selects "ThrowFlowModel" ⟨"ThrowFlowModel", "spent", "()I"⟩ ⟨"ThrowFlowModel", "spent", "()I"⟩ ∈ al_w := in_w 871 (by decide +kernel) rfl
set_option maxRecDepth 20000 in
theorem mw_872 : Cond.code ⟨"ThrowFlowModel", "spent", "()I"⟩ prog_8_method_38_code 1 (some (.int)) ∈ al_w := in_w 872 (by rfl) rfl
theorem mw_873 : Cond.methodLink "ThrowFlowLaw" 102 ⟨"ThrowFlowModel", "escaped", "()I"⟩ ∈ al_w := in_w 873 (by decide +kernel) rfl
theorem mw_874 : Cond.instanceMethod ⟨"ThrowFlowModel", "escaped", "()I"⟩ ∈ al_w := in_w 874 (by decide +kernel) rfl
theorem mw_875 : Cond.selects "ThrowFlowModel" ⟨"ThrowFlowModel", "escaped", "()I"⟩ ⟨"ThrowFlowModel", "escaped", "()I"⟩ ∈ al_w := in_w 875 (by decide +kernel) rfl
set_option maxRecDepth 20000 in
theorem mw_876 : Cond.code ⟨"ThrowFlowModel", "escaped", "()I"⟩ prog_8_method_39_code 1 (some (.int)) ∈ al_w := in_w 876 (by rfl) rfl
theorem cl_0 : ∀ w ∈ u_ws "ThrowFlow" TC0 3, w ∈ al_w := by
  intro w hw
  obtain ⟨k, hk, rfl⟩ := List.mem_map.mp hw
  have hk := List.mem_range.mp hk
  match k, hk with
  | 0, _ => exact mw_222
  | 1, _ => exact mw_224
  | 2, _ => exact mw_226
  | n + 3, h => exact absurd h (by omega)
theorem cn_0 : ∀ x, x < 3 → ∀ y, y < 3 → x ≠ y → (TC0 x).2.1 ≠ (TC0 y).2.1 := by decide +kernel
theorem ct_0 : ∀ k, k < 3 → parseFieldDescriptor (TC0 k).2.2.1 = some (tyC0 k) := by decide +kernel
theorem cl_1 : ∀ w ∈ u_ws "ThrowFlow$Text" TC1 3, w ∈ al_w := by
  intro w hw
  obtain ⟨k, hk, rfl⟩ := List.mem_map.mp hw
  have hk := List.mem_range.mp hk
  match k, hk with
  | 0, _ => exact mw_146
  | 1, _ => exact mw_148
  | 2, _ => exact mw_150
  | n + 3, h => exact absurd h (by omega)
theorem cn_1 : ∀ x, x < 3 → ∀ y, y < 3 → x ≠ y → (TC1 x).2.1 ≠ (TC1 y).2.1 := by decide +kernel
theorem ct_1 : ∀ k, k < 3 → parseFieldDescriptor (TC1 k).2.2.1 = some (tyC1 k) := by decide +kernel
theorem cl_2 : ∀ w ∈ u_ws "ThrowFlow$Kinds" TC2 2, w ∈ al_w := by
  intro w hw
  obtain ⟨k, hk, rfl⟩ := List.mem_map.mp hw
  have hk := List.mem_range.mp hk
  match k, hk with
  | 0, _ => exact mw_84
  | 1, _ => exact mw_86
  | n + 2, h => exact absurd h (by omega)
theorem cn_2 : ∀ x, x < 2 → ∀ y, y < 2 → x ≠ y → (TC2 x).2.1 ≠ (TC2 y).2.1 := by decide +kernel
theorem ct_2 : ∀ k, k < 2 → parseFieldDescriptor (TC2 k).2.2.1 = some (tyC2 k) := by decide +kernel
theorem cl_3 : ∀ w ∈ u_ws "ThrowFlow$Flow" TC3 7, w ∈ al_w := by
  intro w hw
  obtain ⟨k, hk, rfl⟩ := List.mem_map.mp hw
  have hk := List.mem_range.mp hk
  match k, hk with
  | 0, _ => exact mw_167
  | 1, _ => exact mw_169
  | 2, _ => exact mw_171
  | 3, _ => exact mw_173
  | 4, _ => exact mw_175
  | 5, _ => exact mw_177
  | 6, _ => exact mw_179
  | n + 7, h => exact absurd h (by omega)
theorem cn_3 : ∀ x, x < 7 → ∀ y, y < 7 → x ≠ y → (TC3 x).2.1 ≠ (TC3 y).2.1 := by decide +kernel
theorem ct_3 : ∀ k, k < 7 → parseFieldDescriptor (TC3 k).2.2.1 = some (tyC3 k) := by decide +kernel
theorem cl_4 : ∀ w ∈ u_ws "ThrowFlow$Machine" TC4 9, w ∈ al_w := by
  intro w hw
  obtain ⟨k, hk, rfl⟩ := List.mem_map.mp hw
  have hk := List.mem_range.mp hk
  match k, hk with
  | 0, _ => exact mw_200
  | 1, _ => exact mw_202
  | 2, _ => exact mw_204
  | 3, _ => exact mw_206
  | 4, _ => exact mw_208
  | 5, _ => exact mw_210
  | 6, _ => exact mw_212
  | 7, _ => exact mw_214
  | 8, _ => exact mw_216
  | n + 9, h => exact absurd h (by omega)
theorem cn_4 : ∀ x, x < 9 → ∀ y, y < 9 → x ≠ y → (TC4 x).2.1 ≠ (TC4 y).2.1 := by decide +kernel
theorem ct_4 : ∀ k, k < 9 → parseFieldDescriptor (TC4 k).2.2.1 = some (tyC4 k) := by decide +kernel
theorem cl_5 : ∀ w ∈ u_ws "ThrowFlow$Body" TC5 9, w ∈ al_w := by
  intro w hw
  obtain ⟨k, hk, rfl⟩ := List.mem_map.mp hw
  have hk := List.mem_range.mp hk
  match k, hk with
  | 0, _ => exact mw_118
  | 1, _ => exact mw_120
  | 2, _ => exact mw_122
  | 3, _ => exact mw_124
  | 4, _ => exact mw_126
  | 5, _ => exact mw_128
  | 6, _ => exact mw_130
  | 7, _ => exact mw_132
  | 8, _ => exact mw_134
  | n + 9, h => exact absurd h (by omega)
theorem cn_5 : ∀ x, x < 9 → ∀ y, y < 9 → x ≠ y → (TC5 x).2.1 ≠ (TC5 y).2.1 := by decide +kernel
theorem ct_5 : ∀ k, k < 9 → parseFieldDescriptor (TC5 k).2.2.1 = some (tyC5 k) := by decide +kernel
theorem cl_6 : ∀ w ∈ u_ws "ThrowFlowModel" TC6 23, w ∈ al_w := by
  intro w hw
  obtain ⟨k, hk, rfl⟩ := List.mem_map.mp hw
  have hk := List.mem_range.mp hk
  match k, hk with
  | 0, _ => exact mw_678
  | 1, _ => exact mw_680
  | 2, _ => exact mw_682
  | 3, _ => exact mw_684
  | 4, _ => exact mw_686
  | 5, _ => exact mw_688
  | 6, _ => exact mw_690
  | 7, _ => exact mw_692
  | 8, _ => exact mw_694
  | 9, _ => exact mw_696
  | 10, _ => exact mw_698
  | 11, _ => exact mw_700
  | 12, _ => exact mw_702
  | 13, _ => exact mw_704
  | 14, _ => exact mw_706
  | 15, _ => exact mw_708
  | 16, _ => exact mw_710
  | 17, _ => exact mw_712
  | 18, _ => exact mw_714
  | 19, _ => exact mw_716
  | 20, _ => exact mw_718
  | 21, _ => exact mw_720
  | 22, _ => exact mw_722
  | n + 23, h => exact absurd h (by omega)
theorem cn_6 : ∀ x, x < 23 → ∀ y, y < 23 → x ≠ y → (TC6 x).2.1 ≠ (TC6 y).2.1 := by decide +kernel
theorem ct_6 : ∀ k, k < 23 → parseFieldDescriptor (TC6 k).2.2.1 = some (tyC6 k) := by decide +kernel
theorem cls_ok : ∀ (a : Nat) (C : String) (T : u_T) (N : Nat), vwCl[a]? = some (C, T, N) → (∀ w ∈ u_ws C T N, w ∈ al_w) ∧ (∀ k, k < N → parseFieldDescriptor (T k).2.2.1 = some (tyC a k)) ∧ ∀ x, x < N → ∀ y, y < N → x ≠ y → (T x).2.1 ≠ (T y).2.1 := by
  intro a C T N h
  match a, h with
  | 0, h => cases h; exact ⟨cl_0, ct_0, cn_0⟩
  | 1, h => cases h; exact ⟨cl_1, ct_1, cn_1⟩
  | 2, h => cases h; exact ⟨cl_2, ct_2, cn_2⟩
  | 3, h => cases h; exact ⟨cl_3, ct_3, cn_3⟩
  | 4, h => cases h; exact ⟨cl_4, ct_4, cn_4⟩
  | 5, h => cases h; exact ⟨cl_5, ct_5, cn_5⟩
  | 6, h => cases h; exact ⟨cl_6, ct_6, cn_6⟩
  | n + 7, h => exact absurd (List.getElem?_eq_some_iff.mp h).1 (by show ¬ n + 7 < 7; omega)
def omL : List String := ["ThrowFlow", "ThrowFlow", "ThrowFlow", "ThrowFlow", "ThrowFlow", "ThrowFlow", "ThrowFlow", "ThrowFlow", "ThrowFlow", "ThrowFlow", "ThrowFlow", "ThrowFlow", "ThrowFlow", "ThrowFlow", "ThrowFlowModel", "ThrowFlowModel", "ThrowFlowModel", "ThrowFlowModel", "ThrowFlowModel", "ThrowFlowModel", "ThrowFlowModel", "ThrowFlowModel", "ThrowFlowModel", "ThrowFlowModel", "ThrowFlowModel", "ThrowFlowModel", "ThrowFlowModel", "ThrowFlowModel", "ThrowFlowModel", "ThrowFlowModel", "ThrowFlowModel", "ThrowFlowModel", "ThrowFlowModel", "ThrowFlowModel", "ThrowFlowModel", "ThrowFlowModel", "ThrowFlowModel", "ThrowFlowModel", "ThrowFlowModel", "ThrowFlowModel", "ThrowFlowModel", "ThrowFlowModel", "ThrowFlowModel", "ThrowFlowModel", "ThrowFlowModel", "ThrowFlowModel", "ThrowFlowModel", "ThrowFlowModel", "ThrowFlowModel", "ThrowFlowModel", "ThrowFlowModel", "ThrowFlowModel", "ThrowFlow$Body", "ThrowFlow$Body", "ThrowFlow$Body", "ThrowFlow$Body", "ThrowFlow$Body", "ThrowFlow$Body", "ThrowFlow$Body", "ThrowFlow$Flow", "ThrowFlow$Flow", "ThrowFlow$Flow", "ThrowFlow$Flow", "ThrowFlow$Flow", "ThrowFlow$Flow", "ThrowFlow$Flow", "ThrowFlow$Flow", "ThrowFlow$Flow", "ThrowFlow$Flow", "ThrowFlow$Flow", "ThrowFlow$Flow", "ThrowFlow$Flow", "ThrowFlow$Flow", "ThrowFlow$Flow", "ThrowFlow$Flow", "ThrowFlow$Flow", "ThrowFlow$Kinds", "ThrowFlow$Kinds", "ThrowFlow$Kinds", "ThrowFlow$Kinds", "ThrowFlow$Machine", "ThrowFlow$Machine", "ThrowFlow$Machine", "ThrowFlow$Machine", "ThrowFlow$Machine", "ThrowFlow$Machine", "ThrowFlow$Machine", "ThrowFlow$Machine", "ThrowFlow$Machine", "ThrowFlow$Machine", "ThrowFlow$Machine", "ThrowFlow$Machine", "ThrowFlow$Machine", "ThrowFlow$Machine", "ThrowFlow$Machine", "ThrowFlow$Machine", "ThrowFlow$Text", "ThrowFlow$Text", "ThrowFlow$Text", "ThrowFlow$Text", "ThrowFlow$Text", "ThrowFlow$Text", "ThrowFlow$Text", "ThrowFlow$Text", "ThrowFlow$Text", "ThrowFlowLaw", "java/util/Arrays"]
def om (i : Nat) : String := pgd omL i ""
def ymL : List MethodName := [⟨"ThrowFlow", "kind", "(I)I"⟩, ⟨"ThrowFlow", "is", "(II)Z"⟩, ⟨"ThrowFlow", "method", "()I"⟩, ⟨"ThrowFlow", "add", "(IIII)I"⟩, ⟨"ThrowFlow", "handler", "(IIIII)I"⟩, ⟨"ThrowFlow", "change", "(IIIII)I"⟩, ⟨"ThrowFlow", "out", "(I)I"⟩, ⟨"ThrowFlow", "raises", "(II)I"⟩, ⟨"ThrowFlow", "catches", "(II)I"⟩, ⟨"ThrowFlow", "way", "(II)I"⟩, ⟨"ThrowFlow", "step", "(III)I"⟩, ⟨"ThrowFlow", "run", "(III)I"⟩, ⟨"ThrowFlow", "spent", "()I"⟩, ⟨"ThrowFlow", "escaped", "()I"⟩, ⟨"ThrowFlowModel", "thrown", "()I"⟩, ⟨"ThrowFlowModel", "isKind", "(I)Z"⟩, ⟨"ThrowFlowModel", "isOne", "(II)Z"⟩, ⟨"ThrowFlowModel", "kind", "(I)I"⟩, ⟨"ThrowFlowModel", "is", "(II)Z"⟩, ⟨"ThrowFlowModel", "isMethod", "(I)Z"⟩, ⟨"ThrowFlowModel", "isPlace", "(II)Z"⟩, ⟨"ThrowFlowModel", "method", "()I"⟩, ⟨"ThrowFlowModel", "isIn", "(II)Z"⟩, ⟨"ThrowFlowModel", "fits", "(III)Z"⟩, ⟨"ThrowFlowModel", "write", "(IIIII)V"⟩, ⟨"ThrowFlowModel", "add", "(IIII)I"⟩, ⟨"ThrowFlowModel", "handler", "(IIIII)I"⟩, ⟨"ThrowFlowModel", "change", "(IIIII)I"⟩, ⟨"ThrowFlowModel", "catcher", "(III)I"⟩, ⟨"ThrowFlowModel", "nearest", "(III)I"⟩, ⟨"ThrowFlowModel", "reckon", "(III)I"⟩, ⟨"ThrowFlowModel", "lower", "()Z"⟩, ⟨"ThrowFlowModel", "settle", "()V"⟩, ⟨"ThrowFlowModel", "raisedAt", "(II)I"⟩, ⟨"ThrowFlowModel", "where", "(II)I"⟩, ⟨"ThrowFlowModel", "out", "(I)I"⟩, ⟨"ThrowFlowModel", "raises", "(II)I"⟩, ⟨"ThrowFlowModel", "catches", "(II)I"⟩, ⟨"ThrowFlowModel", "wayOf", "(II)I"⟩, ⟨"ThrowFlowModel", "way", "(II)I"⟩, ⟨"ThrowFlowModel", "firstWith", "(IIII)I"⟩, ⟨"ThrowFlowModel", "step", "(III)I"⟩, ⟨"ThrowFlowModel", "enter", "(II)V"⟩, ⟨"ThrowFlowModel", "leave", "(I)V"⟩, ⟨"ThrowFlowModel", "raise", "(I)V"⟩, ⟨"ThrowFlowModel", "call", "(III)V"⟩, ⟨"ThrowFlowModel", "divide", "(III)V"⟩, ⟨"ThrowFlowModel", "again", "(II)V"⟩, ⟨"ThrowFlowModel", "act", "()V"⟩, ⟨"ThrowFlowModel", "run", "(III)I"⟩, ⟨"ThrowFlowModel", "spent", "()I"⟩, ⟨"ThrowFlowModel", "escaped", "()I"⟩, ⟨"ThrowFlow$Body", "isFull", "()Z"⟩, ⟨"ThrowFlow$Body", "isFullOfHandlers", "()Z"⟩, ⟨"ThrowFlow$Body", "appendInstruction", "(III)I"⟩, ⟨"ThrowFlow$Body", "put", "(IIII)V"⟩, ⟨"ThrowFlow$Body", "appendHandler", "(IIII)I"⟩, ⟨"ThrowFlow$Body", "covers", "(II)Z"⟩, ⟨"ThrowFlow$Body", "catcher", "(IILThrowFlow$Kinds;)I"⟩, ⟨"ThrowFlow$Flow", "doorOf", "(II)I"⟩, ⟨"ThrowFlow$Flow", "doorOut", "(I)I"⟩, ⟨"ThrowFlow$Flow", "placeOf", "(II)I"⟩, ⟨"ThrowFlow$Flow", "through", "(I)I"⟩, ⟨"ThrowFlow$Flow", "raisedAt", "(II)I"⟩, ⟨"ThrowFlow$Flow", "wayLength", "(II)I"⟩, ⟨"ThrowFlow$Flow", "wayPlace", "(III)I"⟩, ⟨"ThrowFlow$Flow", "nearest", "(II)I"⟩, ⟨"ThrowFlow$Flow", "lengthAt", "(III)I"⟩, ⟨"ThrowFlow$Flow", "goesThrough", "(III)I"⟩, ⟨"ThrowFlow$Flow", "sourceDoor", "(II)I"⟩, ⟨"ThrowFlow$Flow", "ownKinds", "(II)I"⟩, ⟨"ThrowFlow$Flow", "refresh", "()V"⟩, ⟨"ThrowFlow$Flow", "raiseOwn", "()V"⟩, ⟨"ThrowFlow$Flow", "raiseFresh", "(I)V"⟩, ⟨"ThrowFlow$Flow", "openDoors", "()Z"⟩, ⟨"ThrowFlow$Flow", "note", "(IIII)V"⟩, ⟨"ThrowFlow$Kinds", "has", "(I)Z"⟩, ⟨"ThrowFlow$Kinds", "isFull", "()Z"⟩, ⟨"ThrowFlow$Kinds", "isOneOf", "(II)Z"⟩, ⟨"ThrowFlow$Kinds", "append", "(I)I"⟩, ⟨"ThrowFlow$Machine", "isUnderWay", "()Z"⟩, ⟨"ThrowFlow$Machine", "start", "(III)V"⟩, ⟨"ThrowFlow$Machine", "enter", "(II)V"⟩, ⟨"ThrowFlow$Machine", "giveAtEnds", "()V"⟩, ⟨"ThrowFlow$Machine", "isAtEnd", "()Z"⟩, ⟨"ThrowFlow$Machine", "body", "()LThrowFlow$Body;"⟩, ⟨"ThrowFlow$Machine", "content", "(I)I"⟩, ⟨"ThrowFlow$Machine", "doInstruction", "()V"⟩, ⟨"ThrowFlow$Machine", "goTo", "(I)V"⟩, ⟨"ThrowFlow$Machine", "goOn", "()V"⟩, ⟨"ThrowFlow$Machine", "become", "(II)V"⟩, ⟨"ThrowFlow$Machine", "divide", "(II)V"⟩, ⟨"ThrowFlow$Machine", "callMethod", "(II)V"⟩, ⟨"ThrowFlow$Machine", "giveBack", "(I)V"⟩, ⟨"ThrowFlow$Machine", "throwAgain", "(I)V"⟩, ⟨"ThrowFlow$Machine", "throwHere", "(I)V"⟩, ⟨"ThrowFlow$Text", "isFull", "()Z"⟩, ⟨"ThrowFlow$Text", "appendMethod", "()I"⟩, ⟨"ThrowFlow$Text", "hasMethod", "(I)Z"⟩, ⟨"ThrowFlow$Text", "hasInstruction", "(II)Z"⟩, ⟨"ThrowFlow$Text", "hasHandler", "(II)Z"⟩, ⟨"ThrowFlow$Text", "allows", "(III)Z"⟩, ⟨"ThrowFlow$Text", "allowsHandler", "(IIII)Z"⟩, ⟨"ThrowFlow$Text", "isRegister", "(I)Z"⟩, ⟨"ThrowFlow$Text", "isPlace", "(I)Z"⟩, ⟨"ThrowFlowLaw", "law", "([I)Z"⟩, ⟨"java/util/Arrays", "fill", "([II)V"⟩]
def ym (i : Nat) : MethodName := pgd ymL i ⟨"", "", ""⟩
def bmL : List ByteArray := [prog_1_method_2_code, prog_1_method_3_code, prog_1_method_4_code, prog_1_method_5_code, prog_1_method_6_code, prog_1_method_7_code, prog_1_method_8_code, prog_1_method_9_code, prog_1_method_10_code, prog_1_method_11_code, prog_1_method_12_code, prog_1_method_13_code, prog_1_method_14_code, prog_1_method_15_code, prog_8_method_2_code, prog_8_method_3_code, prog_8_method_4_code, prog_8_method_5_code, prog_8_method_6_code, prog_8_method_7_code, prog_8_method_8_code, prog_8_method_9_code, prog_8_method_10_code, prog_8_method_11_code, prog_8_method_12_code, prog_8_method_13_code, prog_8_method_14_code, prog_8_method_15_code, prog_8_method_16_code, prog_8_method_17_code, prog_8_method_18_code, prog_8_method_19_code, prog_8_method_20_code, prog_8_method_21_code, prog_8_method_22_code, prog_8_method_23_code, prog_8_method_24_code, prog_8_method_25_code, prog_8_method_26_code, prog_8_method_27_code, prog_8_method_28_code, prog_8_method_29_code, prog_8_method_30_code, prog_8_method_31_code, prog_8_method_32_code, prog_8_method_33_code, prog_8_method_34_code, prog_8_method_35_code, prog_8_method_36_code, prog_8_method_37_code, prog_8_method_38_code, prog_8_method_39_code, prog_2_method_2_code, prog_2_method_3_code, prog_2_method_4_code, prog_2_method_5_code, prog_2_method_6_code, prog_2_method_7_code, prog_2_method_8_code, prog_3_method_2_code, prog_3_method_3_code, prog_3_method_4_code, prog_3_method_5_code, prog_3_method_6_code, prog_3_method_7_code, prog_3_method_8_code, prog_3_method_9_code, prog_3_method_10_code, prog_3_method_11_code, prog_3_method_12_code, prog_3_method_13_code, prog_3_method_14_code, prog_3_method_15_code, prog_3_method_16_code, prog_3_method_17_code, prog_3_method_18_code, prog_4_method_2_code, prog_4_method_3_code, prog_4_method_4_code, prog_4_method_5_code, prog_5_method_2_code, prog_5_method_3_code, prog_5_method_4_code, prog_5_method_5_code, prog_5_method_6_code, prog_5_method_7_code, prog_5_method_8_code, prog_5_method_9_code, prog_5_method_10_code, prog_5_method_11_code, prog_5_method_12_code, prog_5_method_13_code, prog_5_method_14_code, prog_5_method_15_code, prog_5_method_16_code, prog_5_method_17_code, prog_6_method_2_code, prog_6_method_3_code, prog_6_method_4_code, prog_6_method_5_code, prog_6_method_6_code, prog_6_method_7_code, prog_6_method_8_code, prog_6_method_9_code, prog_6_method_10_code, code, prog_17_method_103_code]
def bm (i : Nat) : ByteArray := pgd bmL i ByteArray.empty
def rtmL : List (Option FieldType) := [some (.int), some (.boolean), some (.int), some (.int), some (.int), some (.int), some (.int), some (.int), some (.int), some (.int), some (.int), some (.int), some (.int), some (.int), some (.int), some (.boolean), some (.boolean), some (.int), some (.boolean), some (.boolean), some (.boolean), some (.int), some (.boolean), some (.boolean), none, some (.int), some (.int), some (.int), some (.int), some (.int), some (.int), some (.boolean), none, some (.int), some (.int), some (.int), some (.int), some (.int), some (.int), some (.int), some (.int), some (.int), none, none, none, none, none, none, none, some (.int), some (.int), some (.int), some (.boolean), some (.boolean), some (.int), none, some (.int), some (.boolean), some (.int), some (.int), some (.int), some (.int), some (.int), some (.int), some (.int), some (.int), some (.int), some (.int), some (.int), some (.int), some (.int), none, none, none, some (.boolean), none, some (.boolean), some (.boolean), some (.boolean), some (.int), some (.boolean), none, none, none, some (.boolean), some (.object "ThrowFlow$Body"), some (.int), none, none, none, none, none, none, none, none, none, some (.boolean), some (.int), some (.boolean), some (.boolean), some (.boolean), some (.boolean), some (.boolean), some (.boolean), some (.boolean), some (.boolean), none]
def rtm (i : Nat) : (Option FieldType) := pgd rtmL i none
