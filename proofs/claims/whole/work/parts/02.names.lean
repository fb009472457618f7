/-! ===== BEGIN words of one list among another's, by their places ===== -/
theorem goodIn_r {big : List Cond} (ws : List Cond) (ps : List Nat) (hp : ws = ps.filterMap (fun i => big[i]?)) (h : ws.all goodWord = true) : GoodIn big ws := by
  intro w hw
  have h1 := List.all_eq_true.mp h w hw
  rw [hp] at hw
  obtain ⟨i, -, hi⟩ := List.mem_filterMap.mp hw
  have hm : w ∈ big := by first | exact List.mem_of_getElem? hi | exact List.getElem?_mem hi
  exact ⟨hm, good_of_word h1⟩
theorem goodIn_app {big a b : List Cond} (ha : GoodIn big a) (hb : GoodIn big b) : GoodIn big (a ++ b) := fun w h => (List.mem_append.mp h).elim (ha w) (hb w)
theorem goodIn_ca {big a b : List Cond} {c : Cond} (ha : GoodIn big (c :: a)) (hb : GoodIn big b) : GoodIn big (c :: (a ++ b)) := fun w h => (List.mem_cons.mp h).elim (fun e => ha w (List.mem_cons.mpr (Or.inl e))) (fun h => (List.mem_append.mp h).elim (fun h => ha w (List.mem_cons.mpr (Or.inr h))) (hb w))
theorem goodIn_sub {big ws : List Cond} (hm : ∀ w ∈ ws, w ∈ big) (h : ws.all goodWord = true) : GoodIn big ws := fun w hw => ⟨hm w hw, good_of_word (List.all_eq_true.mp h w hw)⟩
/-! ===== END ===== -/

/-! ===== BEGIN printed: names, fields, word lists, decode rows ===== -/
def RX0 : String := "MireWrestle$Act"
def TX0 : u_T := fun k => match k with
  | 0 => ("MireWrestle$Act", "kind", "I", false)
  | 1 => ("MireWrestle$Act", "grief", "I", false)
  | _ => ("MireWrestle$Act", "other", "I", false)
def tyX0 : Nat → FieldType := fun k => match k with
  | 0 => .int
  | 1 => .int
  | _ => .int
abbrev wsX00 : List Cond := u_ws RX0 TX0 3
theorem nmX0 : ∀ a, a < 3 → ∀ b, b < 3 → a ≠ b → (TX0 a).2.1 ≠ (TX0 b).2.1 := by decide +kernel
theorem tyX0_ok : ∀ k, k < 3 → parseFieldDescriptor (TX0 k).2.2.1 = some (tyX0 k) := by decide +kernel
abbrev cX0_init : ByteArray := prog_2_method_1_code
def yX0_init : MethodName := ⟨RX0, "<init>", "()V"⟩
abbrev cX0_become : ByteArray := prog_2_method_2_code
def yX0_become : MethodName := ⟨RX0, "become", "(III)V"⟩
def RX1 : String := "MireWrestle$Days"
def TX1 : u_T := fun k => match k with
  | 0 => ("MireWrestle$Days", "behind", "LMireWrestle$Mire;", true)
  | 1 => ("MireWrestle$Days", "act", "LMireWrestle$Act;", true)
  | 2 => ("MireWrestle$Days", "acts", "I", false)
  | 3 => ("MireWrestle$Days", "why", "I", false)
  | 4 => ("MireWrestle$Days", "down", "I", false)
  | 5 => ("MireWrestle$Days", "firstDownAct", "I", false)
  | _ => ("MireWrestle$Days", "firstDown", "I", false)
def tyX1 : Nat → FieldType := fun k => match k with
  | 0 => .object "MireWrestle$Mire"
  | 1 => .object "MireWrestle$Act"
  | 2 => .int
  | 3 => .int
  | 4 => .int
  | 5 => .int
  | _ => .int
abbrev wsX10 : List Cond := u_ws RX1 TX1 7
theorem nmX1 : ∀ a, a < 7 → ∀ b, b < 7 → a ≠ b → (TX1 a).2.1 ≠ (TX1 b).2.1 := by decide +kernel
theorem tyX1_ok : ∀ k, k < 7 → parseFieldDescriptor (TX1 k).2.2.1 = some (tyX1 k) := by decide +kernel
abbrev cX1_init : ByteArray := prog_3_method_1_code
def yX1_init : MethodName := ⟨RX1, "<init>", "()V"⟩
abbrev cX1_run : ByteArray := prog_3_method_2_code
def yX1_run : MethodName := ⟨RX1, "run", "(LMireWrestle$Pad;LMireWrestle$Mire;)V"⟩
abbrev cX1_begin : ByteArray := prog_3_method_3_code
def yX1_begin : MethodName := ⟨RX1, "begin", "(LMireWrestle$Mire;)V"⟩
abbrev cX1_noteDown : ByteArray := prog_3_method_4_code
def yX1_noteDown : MethodName := ⟨RX1, "noteDown", "()V"⟩
abbrev cX1_runYear : ByteArray := prog_3_method_5_code
def yX1_runYear : MethodName := ⟨RX1, "runYear", "(IILMireWrestle$Mire;)V"⟩
abbrev cX1_draw : ByteArray := prog_3_method_6_code
def yX1_draw : MethodName := ⟨RX1, "draw", "(II)V"⟩
def RX2 : String := "MireWrestle$Game"
def TX2 : u_T := fun k => match k with
  | 0 => ("MireWrestle$Game", "who", "[I", true)
  | _ => ("MireWrestle$Game", "moves", "[I", true)
def tyX2 : Nat → FieldType := fun k => match k with
  | 0 => .array .int
  | _ => .array .int
abbrev wsX20 : List Cond := u_ws RX2 TX2 2
theorem nmX2 : ∀ a, a < 2 → ∀ b, b < 2 → a ≠ b → (TX2 a).2.1 ≠ (TX2 b).2.1 := by decide +kernel
theorem tyX2_ok : ∀ k, k < 2 → parseFieldDescriptor (TX2 k).2.2.1 = some (tyX2 k) := by decide +kernel
abbrev cX2_init : ByteArray := prog_4_method_1_code
def yX2_init : MethodName := ⟨RX2, "<init>", "()V"⟩
abbrev cX2_solve : ByteArray := prog_4_method_2_code
def yX2_solve : MethodName := ⟨RX2, "solve", "([I)V"⟩
abbrev cX2_settle : ByteArray := prog_4_method_3_code
def yX2_settle : MethodName := ⟨RX2, "settle", "(III)V"⟩
abbrev cX2_leastSettled : ByteArray := prog_4_method_4_code
def yX2_leastSettled : MethodName := ⟨RX2, "leastSettled", "(III)I"⟩
abbrev cX2_areAllWon : ByteArray := prog_4_method_5_code
def yX2_areAllWon : MethodName := ⟨RX2, "areAllWon", "(II)Z"⟩
abbrev cX2_firstMove : ByteArray := prog_4_method_6_code
def yX2_firstMove : MethodName := ⟨RX2, "firstMove", "([II)I"⟩
def RX3 : String := "MireWrestle$Mire"
def TX3 : u_T := fun k => match k with
  | 0 => ("MireWrestle$Mire", "strength", "[I", true)
  | 1 => ("MireWrestle$Mire", "marks", "[I", true)
  | 2 => ("MireWrestle$Mire", "grips", "[I", true)
  | 3 => ("MireWrestle$Mire", "force", "[I", true)
  | 4 => ("MireWrestle$Mire", "takes", "[I", true)
  | 5 => ("MireWrestle$Mire", "first", "[I", true)
  | 6 => ("MireWrestle$Mire", "last", "[I", true)
  | 7 => ("MireWrestle$Mire", "leads", "[I", true)
  | 8 => ("MireWrestle$Mire", "sightHold", "[I", true)
  | 9 => ("MireWrestle$Mire", "sightFits", "[Z", true)
  | 10 => ("MireWrestle$Mire", "sights", "I", false)
  | 11 => ("MireWrestle$Mire", "breath", "I", false)
  | _ => ("MireWrestle$Mire", "hour", "I", false)
def tyX3 : Nat → FieldType := fun k => match k with
  | 0 => .array .int
  | 1 => .array .int
  | 2 => .array .int
  | 3 => .array .int
  | 4 => .array .int
  | 5 => .array .int
  | 6 => .array .int
  | 7 => .array .int
  | 8 => .array .int
  | 9 => .array .boolean
  | 10 => .int
  | 11 => .int
  | _ => .int
abbrev wsX30 : List Cond := u_ws RX3 TX3 13
theorem nmX3 : ∀ a, a < 13 → ∀ b, b < 13 → a ≠ b → (TX3 a).2.1 ≠ (TX3 b).2.1 := by decide +kernel
theorem tyX3_ok : ∀ k, k < 13 → parseFieldDescriptor (TX3 k).2.2.1 = some (tyX3 k) := by decide +kernel
abbrev cX3_init : ByteArray := prog_5_method_1_code
def yX3_init : MethodName := ⟨RX3, "<init>", "()V"⟩
abbrev cX3_become : ByteArray := prog_5_method_2_code
def yX3_become : MethodName := ⟨RX3, "become", "(LMireWrestle$Mire;)V"⟩
abbrev cX3_isThere : ByteArray := prog_5_method_3_code
def yX3_isThere : MethodName := ⟨RX3, "isThere", "(I)Z"⟩
abbrev cX3_griefsThere : ByteArray := prog_5_method_4_code
def yX3_griefsThere : MethodName := ⟨RX3, "griefsThere", "()I"⟩
abbrev cX3_griefPart : ByteArray := prog_5_method_5_code
def yX3_griefPart : MethodName := ⟨RX3, "griefPart", "(II)I"⟩
abbrev cX3_holdAsNumber : ByteArray := prog_5_method_6_code
def yX3_holdAsNumber : MethodName := ⟨RX3, "holdAsNumber", "(I)I"⟩
abbrev cX3_coatAsNumber : ByteArray := prog_5_method_7_code
def yX3_coatAsNumber : MethodName := ⟨RX3, "coatAsNumber", "(I)I"⟩
abbrev cX3_countMoves : ByteArray := prog_5_method_8_code
def yX3_countMoves : MethodName := ⟨RX3, "countMoves", "()I"⟩
abbrev cX3_holdsThatFit : ByteArray := prog_5_method_9_code
def yX3_holdsThatFit : MethodName := ⟨RX3, "holdsThatFit", "(I)I"⟩
abbrev cX3_attempt : ByteArray := prog_5_method_10_code
def yX3_attempt : MethodName := ⟨RX3, "attempt", "(LMireWrestle$Act;)I"⟩
abbrev cX3_takeHold : ByteArray := prog_5_method_11_code
def yX3_takeHold : MethodName := ⟨RX3, "takeHold", "(II)I"⟩
abbrev cX3_join : ByteArray := prog_5_method_12_code
def yX3_join : MethodName := ⟨RX3, "join", "(II)I"⟩
abbrev cX3_sitBy : ByteArray := prog_5_method_13_code
def yX3_sitBy : MethodName := ⟨RX3, "sitBy", "(I)I"⟩
abbrev cX3_rest : ByteArray := prog_5_method_14_code
def yX3_rest : MethodName := ⟨RX3, "rest", "()I"⟩
abbrev cX3_passHour : ByteArray := prog_5_method_15_code
def yX3_passHour : MethodName := ⟨RX3, "passHour", "()I"⟩
abbrev cX3_strengthOf : ByteArray := prog_5_method_16_code
def yX3_strengthOf : MethodName := ⟨RX3, "strengthOf", "(I)I"⟩
abbrev cX3_marksOf : ByteArray := prog_5_method_17_code
def yX3_marksOf : MethodName := ⟨RX3, "marksOf", "(I)I"⟩
abbrev cX3_leastSetWith : ByteArray := prog_5_method_18_code
def yX3_leastSetWith : MethodName := ⟨RX3, "leastSetWith", "(I)I"⟩
abbrev cX3_hoursOf : ByteArray := prog_5_method_19_code
def yX3_hoursOf : MethodName := ⟨RX3, "hoursOf", "(I)I"⟩
abbrev cX3_fewestCoatsFor : ByteArray := prog_5_method_20_code
def yX3_fewestCoatsFor : MethodName := ⟨RX3, "fewestCoatsFor", "(I)I"⟩
abbrev cX3_addSight : ByteArray := prog_5_method_21_code
def yX3_addSight : MethodName := ⟨RX3, "addSight", "(IZ)Z"⟩
abbrev cX3_isAsSeen : ByteArray := prog_5_method_22_code
def yX3_isAsSeen : MethodName := ⟨RX3, "isAsSeen", "(I)Z"⟩
def RX4 : String := "MireWrestle$Orders"
def TX4 : u_T := fun k => match k with
  | 0 => ("MireWrestle$Orders", "prices", "LMireWrestle$Prices;", true)
  | 1 => ("MireWrestle$Orders", "hours", "[I", true)
  | 2 => ("MireWrestle$Orders", "borne", "[I", true)
  | _ => ("MireWrestle$Orders", "taken", "I", false)
def tyX4 : Nat → FieldType := fun k => match k with
  | 0 => .object "MireWrestle$Prices"
  | 1 => .array .int
  | 2 => .array .int
  | _ => .int
abbrev wsX40 : List Cond := u_ws RX4 TX4 4
theorem nmX4 : ∀ a, a < 4 → ∀ b, b < 4 → a ≠ b → (TX4 a).2.1 ≠ (TX4 b).2.1 := by decide +kernel
theorem tyX4_ok : ∀ k, k < 4 → parseFieldDescriptor (TX4 k).2.2.1 = some (tyX4 k) := by decide +kernel
abbrev cX4_init : ByteArray := prog_6_method_1_code
def yX4_init : MethodName := ⟨RX4, "<init>", "()V"⟩
abbrev cX4_work : ByteArray := prog_6_method_2_code
def yX4_work : MethodName := ⟨RX4, "work", "(LMireWrestle$Mire;)V"⟩
abbrev cX4_leastOf : ByteArray := prog_6_method_3_code
def yX4_leastOf : MethodName := ⟨RX4, "leastOf", "(LMireWrestle$Mire;I)I"⟩
abbrev cX4_borneIfFirst : ByteArray := prog_6_method_4_code
def yX4_borneIfFirst : MethodName := ⟨RX4, "borneIfFirst", "(LMireWrestle$Mire;II)I"⟩
abbrev cX4_leastBorne : ByteArray := prog_6_method_5_code
def yX4_leastBorne : MethodName := ⟨RX4, "leastBorne", "()I"⟩
abbrev cX4_firstTaken : ByteArray := prog_6_method_6_code
def yX4_firstTaken : MethodName := ⟨RX4, "firstTaken", "(LMireWrestle$Mire;)I"⟩
def RX5 : String := "MireWrestle$Pad"
def TX5 : u_T := fun k => match k with
  | 0 => ("MireWrestle$Pad", "signs", "[I", true)
  | _ => ("MireWrestle$Pad", "count", "I", false)
def tyX5 : Nat → FieldType := fun k => match k with
  | 0 => .array .int
  | _ => .int
abbrev wsX50 : List Cond := u_ws RX5 TX5 2
theorem nmX5 : ∀ a, a < 2 → ∀ b, b < 2 → a ≠ b → (TX5 a).2.1 ≠ (TX5 b).2.1 := by decide +kernel
theorem tyX5_ok : ∀ k, k < 2 → parseFieldDescriptor (TX5 k).2.2.1 = some (tyX5 k) := by decide +kernel
abbrev cX5_init : ByteArray := prog_7_method_1_code
def yX5_init : MethodName := ⟨RX5, "<init>", "()V"⟩
abbrev cX5_write : ByteArray := prog_7_method_2_code
def yX5_write : MethodName := ⟨RX5, "write", "(I)Z"⟩
abbrev cX5_findFault : ByteArray := prog_7_method_3_code
def yX5_findFault : MethodName := ⟨RX5, "findFault", "()I"⟩
abbrev cX5_awaitedAfter : ByteArray := prog_7_method_4_code
def yX5_awaitedAfter : MethodName := ⟨RX5, "awaitedAfter", "(II)I"⟩
abbrev cX5_read : ByteArray := prog_7_method_5_code
def yX5_read : MethodName := ⟨RX5, "read", "(ILMireWrestle$Act;)I"⟩
abbrev cX5_signAt : ByteArray := prog_7_method_6_code
def yX5_signAt : MethodName := ⟨RX5, "signAt", "(I)I"⟩
abbrev cX5_isLetter : ByteArray := prog_7_method_7_code
def yX5_isLetter : MethodName := ⟨RX5, "isLetter", "(I)Z"⟩
def RX6 : String := "MireWrestle$Prices"
def TX6 : u_T := fun k => match k with
  | _ => ("MireWrestle$Prices", "price", "[I", true)
def tyX6 : Nat → FieldType := fun k => match k with
  | _ => .array .int
abbrev wsX60 : List Cond := u_ws RX6 TX6 1
theorem nmX6 : ∀ a, a < 1 → ∀ b, b < 1 → a ≠ b → (TX6 a).2.1 ≠ (TX6 b).2.1 := by decide +kernel
theorem tyX6_ok : ∀ k, k < 1 → parseFieldDescriptor (TX6 k).2.2.1 = some (tyX6 k) := by decide +kernel
abbrev cX6_init : ByteArray := prog_8_method_1_code
def yX6_init : MethodName := ⟨RX6, "<init>", "()V"⟩
abbrev cX6_priceOf : ByteArray := prog_8_method_2_code
def yX6_priceOf : MethodName := ⟨RX6, "priceOf", "(LMireWrestle$Mire;I)I"⟩
abbrev cX6_cheapest : ByteArray := prog_8_method_3_code
def yX6_cheapest : MethodName := ⟨RX6, "cheapest", "(LMireWrestle$Mire;II)I"⟩
def RX7 : String := "MireWrestle$Shapes"
def TX7 : u_T := fun k => match k with
  | 0 => ("MireWrestle$Shapes", "left", "[I", true)
  | _ => ("MireWrestle$Shapes", "count", "I", false)
def tyX7 : Nat → FieldType := fun k => match k with
  | 0 => .array .int
  | _ => .int
abbrev wsX70 : List Cond := u_ws RX7 TX7 2
theorem nmX7 : ∀ a, a < 2 → ∀ b, b < 2 → a ≠ b → (TX7 a).2.1 ≠ (TX7 b).2.1 := by decide +kernel
theorem tyX7_ok : ∀ k, k < 2 → parseFieldDescriptor (TX7 k).2.2.1 = some (tyX7 k) := by decide +kernel
abbrev cX7_init : ByteArray := prog_9_method_1_code
def yX7_init : MethodName := ⟨RX7, "<init>", "()V"⟩
abbrev cX7_find : ByteArray := prog_9_method_2_code
def yX7_find : MethodName := ⟨RX7, "find", "(LMireWrestle$Mire;)V"⟩
abbrev cX7_shapeAt : ByteArray := prog_9_method_3_code
def yX7_shapeAt : MethodName := ⟨RX7, "shapeAt", "(I)I"⟩
abbrev cX7_holdToTry : ByteArray := prog_9_method_4_code
def yX7_holdToTry : MethodName := ⟨RX7, "holdToTry", "(LMireWrestle$Mire;)I"⟩
abbrev cX7_mostLeftBy : ByteArray := prog_9_method_5_code
def yX7_mostLeftBy : MethodName := ⟨RX7, "mostLeftBy", "(I)I"⟩
def RX8 : String := "MireWrestle"
def TX8 : u_T := fun k => match k with
  | 0 => ("MireWrestle", "mire", "LMireWrestle$Mire;", true)
  | 1 => ("MireWrestle", "pad", "LMireWrestle$Pad;", true)
  | 2 => ("MireWrestle", "days", "LMireWrestle$Days;", true)
  | 3 => ("MireWrestle", "prices", "LMireWrestle$Prices;", true)
  | 4 => ("MireWrestle", "orders", "LMireWrestle$Orders;", true)
  | 5 => ("MireWrestle", "shapes", "LMireWrestle$Shapes;", true)
  | 6 => ("MireWrestle", "game", "LMireWrestle$Game;", true)
  | _ => ("MireWrestle", "images", "[LMireWrestle$Mire;", true)
def tyX8 : Nat → FieldType := fun k => match k with
  | 0 => .object "MireWrestle$Mire"
  | 1 => .object "MireWrestle$Pad"
  | 2 => .object "MireWrestle$Days"
  | 3 => .object "MireWrestle$Prices"
  | 4 => .object "MireWrestle$Orders"
  | 5 => .object "MireWrestle$Shapes"
  | 6 => .object "MireWrestle$Game"
  | _ => .array (.object "MireWrestle$Mire")
abbrev wsX80 : List Cond := u_ws RX8 TX8 8
theorem nmX8 : ∀ a, a < 8 → ∀ b, b < 8 → a ≠ b → (TX8 a).2.1 ≠ (TX8 b).2.1 := by decide +kernel
theorem tyX8_ok : ∀ k, k < 8 → parseFieldDescriptor (TX8 k).2.2.1 = some (tyX8 k) := by decide +kernel
abbrev cX8_init : ByteArray := prog_1_method_1_code
def yX8_init : MethodName := ⟨RX8, "<init>", "()V"⟩
abbrev cX8_grief : ByteArray := prog_1_method_2_code
def yX8_grief : MethodName := ⟨RX8, "grief", "(III)I"⟩
abbrev cX8_hold : ByteArray := prog_1_method_3_code
def yX8_hold : MethodName := ⟨RX8, "hold", "(IIII)I"⟩
abbrev cX8_breath : ByteArray := prog_1_method_4_code
def yX8_breath : MethodName := ⟨RX8, "breath", "(I)I"⟩
abbrev cX8_coat : ByteArray := prog_1_method_5_code
def yX8_coat : MethodName := ⟨RX8, "coat", "(III)I"⟩
abbrev cX8_move : ByteArray := prog_1_method_6_code
def yX8_move : MethodName := ⟨RX8, "move", "(IIZ)I"⟩
abbrev cX8_say : ByteArray := prog_1_method_7_code
def yX8_say : MethodName := ⟨RX8, "say", "(I)I"⟩
abbrev cX8_wipe : ByteArray := prog_1_method_8_code
def yX8_wipe : MethodName := ⟨RX8, "wipe", "()I"⟩
abbrev cX8_fault : ByteArray := prog_1_method_9_code
def yX8_fault : MethodName := ⟨RX8, "fault", "()I"⟩
abbrev cX8_judge : ByteArray := prog_1_method_10_code
def yX8_judge : MethodName := ⟨RX8, "judge", "(I)I"⟩
abbrev cX8_done : ByteArray := prog_1_method_11_code
def yX8_done : MethodName := ⟨RX8, "done", "()I"⟩
abbrev cX8_behind : ByteArray := prog_1_method_12_code
def yX8_behind : MethodName := ⟨RX8, "behind", "(II)I"⟩
abbrev cX8_then : ByteArray := prog_1_method_13_code
def yX8_then : MethodName := ⟨RX8, "then", "(I)I"⟩
abbrev cX8_fitting : ByteArray := prog_1_method_14_code
def yX8_fitting : MethodName := ⟨RX8, "fitting", "(I)I"⟩
abbrev cX8_least : ByteArray := prog_1_method_15_code
def yX8_least : MethodName := ⟨RX8, "least", "(II)I"⟩
abbrev cX8_order : ByteArray := prog_1_method_16_code
def yX8_order : MethodName := ⟨RX8, "order", "(I)I"⟩
abbrev cX8_make : ByteArray := prog_1_method_17_code
def yX8_make : MethodName := ⟨RX8, "make", "(II)I"⟩
abbrev cX8_ring : ByteArray := prog_1_method_18_code
def yX8_ring : MethodName := ⟨RX8, "ring", "(III)I"⟩
abbrev cX8_seen : ByteArray := prog_1_method_19_code
def yX8_seen : MethodName := ⟨RX8, "seen", "(IZ)I"⟩
abbrev cX8_forget : ByteArray := prog_1_method_20_code
def yX8_forget : MethodName := ⟨RX8, "forget", "()I"⟩
abbrev cX8_shape : ByteArray := prog_1_method_21_code
def yX8_shape : MethodName := ⟨RX8, "shape", "(I)I"⟩
abbrev cX8_ask : ByteArray := prog_1_method_22_code
def yX8_ask : MethodName := ⟨RX8, "ask", "(I)I"⟩
abbrev cX8_play : ByteArray := prog_1_method_23_code
def yX8_play : MethodName := ⟨RX8, "play", "(II)I"⟩
abbrev cX8_themselves : ByteArray := prog_1_method_24_code
def yX8_themselves : MethodName := ⟨RX8, "themselves", "(IIII)J"⟩
abbrev cX8_year : ByteArray := prog_1_method_25_code
def yX8_year : MethodName := ⟨RX8, "year", "(III)I"⟩
abbrev cX8_image : ByteArray := prog_1_method_26_code
def yX8_image : MethodName := ⟨RX8, "image", "(I)I"⟩
abbrev cX8_restore : ByteArray := prog_1_method_27_code
def yX8_restore : MethodName := ⟨RX8, "restore", "(I)I"⟩
abbrev cX8_told : ByteArray := prog_1_method_28_code
def yX8_told : MethodName := ⟨RX8, "told", "(I)I"⟩
abbrev cX8_toldOfGrief : ByteArray := prog_1_method_29_code
def yX8_toldOfGrief : MethodName := ⟨RX8, "toldOfGrief", "(II)I"⟩
abbrev cX8_tryDays : ByteArray := prog_1_method_30_code
def yX8_tryDays : MethodName := ⟨RX8, "tryDays", "()Z"⟩
abbrev cX8_isFrom : ByteArray := prog_1_method_31_code
def yX8_isFrom : MethodName := ⟨RX8, "isFrom", "(III)Z"⟩
abbrev cX8_isHold : ByteArray := prog_1_method_32_code
def yX8_isHold : MethodName := ⟨RX8, "isHold", "(I)Z"⟩
abbrev cX8_isState : ByteArray := prog_1_method_33_code
def yX8_isState : MethodName := ⟨RX8, "isState", "(I)Z"⟩
abbrev cX8_isSetOfMarks : ByteArray := prog_1_method_34_code
def yX8_isSetOfMarks : MethodName := ⟨RX8, "isSetOfMarks", "(I)Z"⟩
abbrev cX8_areHours : ByteArray := prog_1_method_35_code
def yX8_areHours : MethodName := ⟨RX8, "areHours", "(II)Z"⟩
abbrev cX8_isIn : ByteArray := prog_1_method_36_code
def yX8_isIn : MethodName := ⟨RX8, "isIn", "(II)Z"⟩
abbrev cX8_isWithin : ByteArray := prog_1_method_37_code
def yX8_isWithin : MethodName := ⟨RX8, "isWithin", "(II)Z"⟩
abbrev cX8_hoursFrom : ByteArray := prog_1_method_38_code
def yX8_hoursFrom : MethodName := ⟨RX8, "hoursFrom", "(II)I"⟩
abbrev cX8_choose : ByteArray := prog_1_method_39_code
def yX8_choose : MethodName := ⟨RX8, "choose", "(II)J"⟩
abbrev cX8_power : ByteArray := prog_1_method_40_code
def yX8_power : MethodName := ⟨RX8, "power", "(JI)J"⟩
abbrev cX8_copyRow : ByteArray := prog_1_method_41_code
def yX8_copyRow : MethodName := ⟨RX8, "copyRow", "([I[I)V"⟩
def RX9 : String := "MireWrestleModel"
def TX9 : u_T := fun k => match k with
  | 0 => ("MireWrestleModel", "book", "[I", true)
  | 1 => ("MireWrestleModel", "now", "[I", true)
  | 2 => ("MireWrestleModel", "grips", "[I", true)
  | 3 => ("MireWrestleModel", "force", "[I", true)
  | 4 => ("MireWrestleModel", "takes", "[I", true)
  | 5 => ("MireWrestleModel", "coats", "[I", true)
  | 6 => ("MireWrestleModel", "moves", "[I", true)
  | 7 => ("MireWrestleModel", "sights", "I", false)
  | 8 => ("MireWrestleModel", "sight", "[I", true)
  | 9 => ("MireWrestleModel", "signs", "I", false)
  | 10 => ("MireWrestleModel", "pad", "[I", true)
  | 11 => ("MireWrestleModel", "downMany", "I", false)
  | 12 => ("MireWrestleModel", "downAt", "I", false)
  | 13 => ("MireWrestleModel", "downWhich", "I", false)
  | 14 => ("MireWrestleModel", "reason", "I", false)
  | 15 => ("MireWrestleModel", "acts", "I", false)
  | 16 => ("MireWrestleModel", "cost", "[I", true)
  | 17 => ("MireWrestleModel", "hours", "[I", true)
  | 18 => ("MireWrestleModel", "borne", "[I", true)
  | 19 => ("MireWrestleModel", "who", "[I", true)
  | 20 => ("MireWrestleModel", "often", "[I", true)
  | 21 => ("MireWrestleModel", "ways", "[J", true)
  | 22 => ("MireWrestleModel", "image", "[I", true)
  | _ => ("MireWrestleModel", "isKept", "[Z", true)
def tyX9 : Nat → FieldType := fun k => match k with
  | 0 => .array .int
  | 1 => .array .int
  | 2 => .array .int
  | 3 => .array .int
  | 4 => .array .int
  | 5 => .array .int
  | 6 => .array .int
  | 7 => .int
  | 8 => .array .int
  | 9 => .int
  | 10 => .array .int
  | 11 => .int
  | 12 => .int
  | 13 => .int
  | 14 => .int
  | 15 => .int
  | 16 => .array .int
  | 17 => .array .int
  | 18 => .array .int
  | 19 => .array .int
  | 20 => .array .int
  | 21 => .array .long
  | 22 => .array .int
  | _ => .array .boolean
abbrev wsX90 : List Cond := u_ws RX9 TX9 24
theorem nmX9 : ∀ a, a < 24 → ∀ b, b < 24 → a ≠ b → (TX9 a).2.1 ≠ (TX9 b).2.1 := by decide +kernel
theorem tyX9_ok : ∀ k, k < 24 → parseFieldDescriptor (TX9 k).2.2.1 = some (tyX9 k) := by decide +kernel
abbrev cX9_init : ByteArray := prog_11_method_1_code
def yX9_init : MethodName := ⟨RX9, "<init>", "()V"⟩
abbrev cX9_in : ByteArray := prog_11_method_2_code
def yX9_in : MethodName := ⟨RX9, "in", "(III)Z"⟩
abbrev cX9_has : ByteArray := prog_11_method_3_code
def yX9_has : MethodName := ⟨RX9, "has", "(II)Z"⟩
abbrev cX9_bits : ByteArray := prog_11_method_4_code
def yX9_bits : MethodName := ⟨RX9, "bits", "(I)I"⟩
abbrev cX9_isThere : ByteArray := prog_11_method_5_code
def yX9_isThere : MethodName := ⟨RX9, "isThere", "(I)Z"⟩
abbrev cX9_grief : ByteArray := prog_11_method_6_code
def yX9_grief : MethodName := ⟨RX9, "grief", "(III)I"⟩
abbrev cX9_hold : ByteArray := prog_11_method_7_code
def yX9_hold : MethodName := ⟨RX9, "hold", "(IIII)I"⟩
abbrev cX9_breath : ByteArray := prog_11_method_8_code
def yX9_breath : MethodName := ⟨RX9, "breath", "(I)I"⟩
abbrev cX9_coat : ByteArray := prog_11_method_9_code
def yX9_coat : MethodName := ⟨RX9, "coat", "(III)I"⟩
abbrev cX9_move : ByteArray := prog_11_method_10_code
def yX9_move : MethodName := ⟨RX9, "move", "(IIZ)I"⟩
abbrev cX9_say : ByteArray := prog_11_method_11_code
def yX9_say : MethodName := ⟨RX9, "say", "(I)I"⟩
abbrev cX9_wipe : ByteArray := prog_11_method_12_code
def yX9_wipe : MethodName := ⟨RX9, "wipe", "()I"⟩
abbrev cX9_faultOf : ByteArray := prog_11_method_13_code
def yX9_faultOf : MethodName := ⟨RX9, "faultOf", "()I"⟩
abbrev cX9_fault : ByteArray := prog_11_method_14_code
def yX9_fault : MethodName := ⟨RX9, "fault", "()I"⟩
abbrev cX9_asNow : ByteArray := prog_11_method_15_code
def yX9_asNow : MethodName := ⟨RX9, "asNow", "()V"⟩
abbrev cX9_stands : ByteArray := prog_11_method_16_code
def yX9_stands : MethodName := ⟨RX9, "stands", "(I)Z"⟩
abbrev cX9_grip : ByteArray := prog_11_method_17_code
def yX9_grip : MethodName := ⟨RX9, "grip", "(II)I"⟩
abbrev cX9_join : ByteArray := prog_11_method_18_code
def yX9_join : MethodName := ⟨RX9, "join", "(II)I"⟩
abbrev cX9_sitBy : ByteArray := prog_11_method_19_code
def yX9_sitBy : MethodName := ⟨RX9, "sitBy", "(I)I"⟩
abbrev cX9_rest : ByteArray := prog_11_method_20_code
def yX9_rest : MethodName := ⟨RX9, "rest", "()I"⟩
abbrev cX9_endHour : ByteArray := prog_11_method_21_code
def yX9_endHour : MethodName := ⟨RX9, "endHour", "()I"⟩
abbrev cX9_griefAct : ByteArray := prog_11_method_22_code
def yX9_griefAct : MethodName := ⟨RX9, "griefAct", "(III)I"⟩
abbrev cX9_goDays : ByteArray := prog_11_method_23_code
def yX9_goDays : MethodName := ⟨RX9, "goDays", "()I"⟩
abbrev cX9_judge : ByteArray := prog_11_method_24_code
def yX9_judge : MethodName := ⟨RX9, "judge", "(I)I"⟩
abbrev cX9_barOfDays : ByteArray := prog_11_method_25_code
def yX9_barOfDays : MethodName := ⟨RX9, "barOfDays", "()I"⟩
abbrev cX9_done : ByteArray := prog_11_method_26_code
def yX9_done : MethodName := ⟨RX9, "done", "()I"⟩
abbrev cX9_behind : ByteArray := prog_11_method_27_code
def yX9_behind : MethodName := ⟨RX9, "behind", "(II)I"⟩
abbrev cX9_then : ByteArray := prog_11_method_28_code
def yX9_then : MethodName := ⟨RX9, "then", "(I)I"⟩
abbrev cX9_fitsOf : ByteArray := prog_11_method_29_code
def yX9_fitsOf : MethodName := ⟨RX9, "fitsOf", "(I)I"⟩
abbrev cX9_fitting : ByteArray := prog_11_method_30_code
def yX9_fitting : MethodName := ⟨RX9, "fitting", "(I)I"⟩
abbrev cX9_leastOf : ByteArray := prog_11_method_31_code
def yX9_leastOf : MethodName := ⟨RX9, "leastOf", "(I)I"⟩
abbrev cX9_least : ByteArray := prog_11_method_32_code
def yX9_least : MethodName := ⟨RX9, "least", "(II)I"⟩
abbrev cX9_order : ByteArray := prog_11_method_33_code
def yX9_order : MethodName := ⟨RX9, "order", "(I)I"⟩
abbrev cX9_make : ByteArray := prog_11_method_34_code
def yX9_make : MethodName := ⟨RX9, "make", "(II)I"⟩
abbrev cX9_ring : ByteArray := prog_11_method_35_code
def yX9_ring : MethodName := ⟨RX9, "ring", "(III)I"⟩
abbrev cX9_seen : ByteArray := prog_11_method_36_code
def yX9_seen : MethodName := ⟨RX9, "seen", "(IZ)I"⟩
abbrev cX9_forget : ByteArray := prog_11_method_37_code
def yX9_forget : MethodName := ⟨RX9, "forget", "()I"⟩
abbrev cX9_isFit : ByteArray := prog_11_method_38_code
def yX9_isFit : MethodName := ⟨RX9, "isFit", "(I)Z"⟩
abbrev cX9_shape : ByteArray := prog_11_method_39_code
def yX9_shape : MethodName := ⟨RX9, "shape", "(I)I"⟩
abbrev cX9_ask : ByteArray := prog_11_method_40_code
def yX9_ask : MethodName := ⟨RX9, "ask", "(I)I"⟩
abbrev cX9_layMud : ByteArray := prog_11_method_41_code
def yX9_layMud : MethodName := ⟨RX9, "layMud", "()V"⟩
abbrev cX9_play : ByteArray := prog_11_method_42_code
def yX9_play : MethodName := ⟨RX9, "play", "(II)I"⟩
abbrev cX9_themselves : ByteArray := prog_11_method_43_code
def yX9_themselves : MethodName := ⟨RX9, "themselves", "(IIII)J"⟩
abbrev cX9_year : ByteArray := prog_11_method_44_code
def yX9_year : MethodName := ⟨RX9, "year", "(III)I"⟩
abbrev cX9_image : ByteArray := prog_11_method_45_code
def yX9_image : MethodName := ⟨RX9, "image", "(I)I"⟩
abbrev cX9_restore : ByteArray := prog_11_method_46_code
def yX9_restore : MethodName := ⟨RX9, "restore", "(I)I"⟩
abbrev cX9_told : ByteArray := prog_11_method_47_code
def yX9_told : MethodName := ⟨RX9, "told", "(I)I"⟩
def RJ6 : String := "java/lang/Integer"
def TJ6 : u_T := fun k => match k with
  | _ => ("", "", "", false)
def tyJ6 : Nat → FieldType := fun k => match k with
  | _ => .int
abbrev wsJ60 : List Cond := u_ws RJ6 TJ6 0
theorem nmJ6 : ∀ a, a < 0 → ∀ b, b < 0 → a ≠ b → (TJ6 a).2.1 ≠ (TJ6 b).2.1 := by decide +kernel
theorem tyJ6_ok : ∀ k, k < 0 → parseFieldDescriptor (TJ6 k).2.2.1 = some (tyJ6 k) := by decide +kernel
abbrev cJ6_bitCount_0f7a4 : ByteArray := prog_12_method_49_code
def yJ6_bitCount_0f7a4 : MethodName := ⟨RJ6, "bitCount", "(I)I"⟩
def RJ9 : String := "java/lang/Math"
def TJ9 : u_T := fun k => match k with
  | _ => ("", "", "", false)
def tyJ9 : Nat → FieldType := fun k => match k with
  | _ => .int
abbrev wsJ90 : List Cond := u_ws RJ9 TJ9 0
theorem nmJ9 : ∀ a, a < 0 → ∀ b, b < 0 → a ≠ b → (TJ9 a).2.1 ≠ (TJ9 b).2.1 := by decide +kernel
theorem tyJ9_ok : ∀ k, k < 0 → parseFieldDescriptor (TJ9 k).2.2.1 = some (tyJ9 k) := by decide +kernel
abbrev cJ9_max_7cf53 : ByteArray := prog_13_method_65_code
def yJ9_max_7cf53 : MethodName := ⟨RJ9, "max", "(II)I"⟩
abbrev cJ9_min_7cf53 : ByteArray := prog_13_method_69_code
def yJ9_min_7cf53 : MethodName := ⟨RJ9, "min", "(II)I"⟩
def RJ10 : String := "java/lang/System"
def TJ10 : u_T := fun k => match k with
  | _ => ("", "", "", false)
def tyJ10 : Nat → FieldType := fun k => match k with
  | _ => .int
abbrev wsJ100 : List Cond := u_ws RJ10 TJ10 0
theorem nmJ10 : ∀ a, a < 0 → ∀ b, b < 0 → a ≠ b → (TJ10 a).2.1 ≠ (TJ10 b).2.1 := by decide +kernel
theorem tyJ10_ok : ∀ k, k < 0 → parseFieldDescriptor (TJ10 k).2.2.1 = some (tyJ10 k) := by decide +kernel
def RL : String := "MireWrestleLaw"
abbrev cL_law : ByteArray := code
def yL_law : MethodName := ⟨RL, "law", "([I)Z"⟩
abbrev vwCl : List vw_C := [(RX0, TX0, 3), (RX1, TX1, 7), (RX2, TX2, 2), (RX3, TX3, 13), (RX4, TX4, 4), (RX5, TX5, 2), (RX6, TX6, 1), (RX7, TX7, 2), (RX8, TX8, 8), (RX9, TX9, 24)]
/-- the words of the tables that last -/
def wsL_law : List Cond := lw_tbl.filter goodWord
theorem wsL_law_in : ∀ w ∈ wsL_law, w ∈ lw_tbl := fun w h => (List.mem_filter.mp h).1
theorem zmem {w : Cond} (i : Nat) (h : lw_tbl[i]? = some w) (hg : goodWord w = true) : w ∈ wsL_law := List.mem_filter.mpr ⟨List.mem_of_getElem? h, hg⟩
theorem zin_of {ws : List Cond} (ps : List Nat) (h : ws.map some = ps.map (fun i => lw_tbl[i]?)) (hg : ws.all goodWord = true) : ∀ w ∈ ws, w ∈ wsL_law := by
  intro w hw
  have h1 : some w ∈ ps.map (fun i => lw_tbl[i]?) := by rw [← h]; exact List.mem_map.mpr ⟨w, hw, rfl⟩
  obtain ⟨i, -, hi⟩ := List.mem_map.mp h1
  exact zmem i hi (List.all_eq_true.mp hg w hw)
