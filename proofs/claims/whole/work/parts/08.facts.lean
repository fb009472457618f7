/-! FACTS, by program: what each method is (code, class, locals, return, room, name), and where the tables say what is linked -/
abbrev mX0_init : zM := (cX0_init, RX0, 1, none, { frames := 1, cells := 0, slots := 0, locals := 20 }, "<init>")
abbrev mX0_become : zM := (cX0_become, RX0, 4, none, { frames := 0, cells := 0, slots := 0, locals := 0 }, "become")
abbrev mX1_init : zM := (cX1_init, RX1, 1, none, { frames := 2, cells := 12, slots := 88, locals := 41 }, "<init>")
abbrev mX1_run : zM := (cX1_run, RX1, 5, none, { frames := 4, cells := 0, slots := 0, locals := 104 }, "run")
abbrev mX1_begin : zM := (cX1_begin, RX1, 2, none, { frames := 3, cells := 0, slots := 0, locals := 83 }, "begin")
abbrev mX1_noteDown : zM := (cX1_noteDown, RX1, 1, none, { frames := 2, cells := 0, slots := 0, locals := 43 }, "noteDown")
abbrev mX1_runYear : zM := (cX1_runYear, RX1, 6, none, { frames := 4, cells := 0, slots := 0, locals := 86 }, "runYear")
abbrev mX1_draw : zM := (cX1_draw, RX1, 3, none, { frames := 1, cells := 0, slots := 0, locals := 23 }, "draw")
abbrev mX2_init : zM := (cX2_init, RX2, 1, none, { frames := 1, cells := 2, slots := 20, locals := 20 }, "<init>")
abbrev mX2_solve : zM := (cX2_solve, RX2, 4, none, { frames := 3, cells := 0, slots := 0, locals := 68 }, "solve")
abbrev mX2_settle : zM := (cX2_settle, RX2, 4, none, { frames := 2, cells := 0, slots := 0, locals := 45 }, "settle")
abbrev mX2_leastSettled : zM := (cX2_leastSettled, RX2, 5, (some .int), { frames := 1, cells := 0, slots := 0, locals := 21 }, "leastSettled")
abbrev mX2_areAllWon : zM := (cX2_areAllWon, RX2, 4, (some .boolean), { frames := 1, cells := 0, slots := 0, locals := 21 }, "areAllWon")
abbrev mX2_firstMove : zM := (cX2_firstMove, RX2, 3, (some .int), { frames := 2, cells := 0, slots := 0, locals := 45 }, "firstMove")
abbrev mX3_init : zM := (cX3_init, RX3, 2, none, { frames := 1, cells := 10, slots := 72, locals := 20 }, "<init>")
abbrev mX3_become : zM := (cX3_become, RX3, 3, none, { frames := 2, cells := 0, slots := 0, locals := 61 }, "become")
abbrev mX3_isThere : zM := (cX3_isThere, RX3, 2, (some .boolean), { frames := 1, cells := 0, slots := 0, locals := 22 }, "isThere")
abbrev mX3_griefsThere : zM := (cX3_griefsThere, RX3, 3, (some .int), { frames := 0, cells := 0, slots := 0, locals := 0 }, "griefsThere")
abbrev mX3_griefPart : zM := (cX3_griefPart, RX3, 3, (some .int), { frames := 0, cells := 0, slots := 0, locals := 0 }, "griefPart")
abbrev mX3_holdAsNumber : zM := (cX3_holdAsNumber, RX3, 2, (some .int), { frames := 0, cells := 0, slots := 0, locals := 0 }, "holdAsNumber")
abbrev mX3_coatAsNumber : zM := (cX3_coatAsNumber, RX3, 2, (some .int), { frames := 0, cells := 0, slots := 0, locals := 0 }, "coatAsNumber")
abbrev mX3_countMoves : zM := (cX3_countMoves, RX3, 3, (some .int), { frames := 1, cells := 0, slots := 0, locals := 20 }, "countMoves")
abbrev mX3_holdsThatFit : zM := (cX3_holdsThatFit, RX3, 4, (some .int), { frames := 1, cells := 0, slots := 0, locals := 21 }, "holdsThatFit")
abbrev mX3_attempt : zM := (cX3_attempt, RX3, 2, (some .int), { frames := 3, cells := 0, slots := 0, locals := 65 }, "attempt")
abbrev mX3_takeHold : zM := (cX3_takeHold, RX3, 3, (some .int), { frames := 2, cells := 0, slots := 0, locals := 43 }, "takeHold")
abbrev mX3_join : zM := (cX3_join, RX3, 3, (some .int), { frames := 2, cells := 0, slots := 0, locals := 43 }, "join")
abbrev mX3_sitBy : zM := (cX3_sitBy, RX3, 2, (some .int), { frames := 2, cells := 0, slots := 0, locals := 43 }, "sitBy")
abbrev mX3_rest : zM := (cX3_rest, RX3, 1, (some .int), { frames := 1, cells := 0, slots := 0, locals := 21 }, "rest")
abbrev mX3_passHour : zM := (cX3_passHour, RX3, 2, (some .int), { frames := 1, cells := 0, slots := 0, locals := 21 }, "passHour")
abbrev mX3_strengthOf : zM := (cX3_strengthOf, RX3, 4, (some .int), { frames := 1, cells := 0, slots := 0, locals := 21 }, "strengthOf")
abbrev mX3_marksOf : zM := (cX3_marksOf, RX3, 4, (some .int), { frames := 1, cells := 0, slots := 0, locals := 21 }, "marksOf")
abbrev mX3_leastSetWith : zM := (cX3_leastSetWith, RX3, 5, (some .int), { frames := 2, cells := 0, slots := 0, locals := 44 }, "leastSetWith")
abbrev mX3_hoursOf : zM := (cX3_hoursOf, RX3, 4, (some .int), { frames := 1, cells := 0, slots := 0, locals := 21 }, "hoursOf")
abbrev mX3_fewestCoatsFor : zM := (cX3_fewestCoatsFor, RX3, 4, (some .int), { frames := 2, cells := 0, slots := 0, locals := 44 }, "fewestCoatsFor")
abbrev mX3_addSight : zM := (cX3_addSight, RX3, 3, (some .boolean), { frames := 0, cells := 0, slots := 0, locals := 0 }, "addSight")
abbrev mX3_isAsSeen : zM := (cX3_isAsSeen, RX3, 3, (some .boolean), { frames := 1, cells := 0, slots := 0, locals := 21 }, "isAsSeen")
abbrev mX4_init : zM := (cX4_init, RX4, 1, none, { frames := 2, cells := 4, slots := 171, locals := 40 }, "<init>")
abbrev mX4_work : zM := (cX4_work, RX4, 4, none, { frames := 4, cells := 0, slots := 0, locals := 91 }, "work")
abbrev mX4_leastOf : zM := (cX4_leastOf, RX4, 5, (some .int), { frames := 3, cells := 0, slots := 0, locals := 67 }, "leastOf")
abbrev mX4_borneIfFirst : zM := (cX4_borneIfFirst, RX4, 4, (some .int), { frames := 2, cells := 0, slots := 0, locals := 44 }, "borneIfFirst")
abbrev mX4_leastBorne : zM := (cX4_leastBorne, RX4, 1, (some .int), { frames := 0, cells := 0, slots := 0, locals := 0 }, "leastBorne")
abbrev mX4_firstTaken : zM := (cX4_firstTaken, RX4, 3, (some .int), { frames := 3, cells := 0, slots := 0, locals := 67 }, "firstTaken")
abbrev mX5_init : zM := (cX5_init, RX5, 1, none, { frames := 1, cells := 1, slots := 60, locals := 20 }, "<init>")
abbrev mX5_write : zM := (cX5_write, RX5, 2, (some .boolean), { frames := 0, cells := 0, slots := 0, locals := 0 }, "write")
abbrev mX5_findFault : zM := (cX5_findFault, RX5, 3, (some .int), { frames := 3, cells := 0, slots := 0, locals := 63 }, "findFault")
abbrev mX5_awaitedAfter : zM := (cX5_awaitedAfter, RX5, 2, (some .int), { frames := 2, cells := 0, slots := 0, locals := 42 }, "awaitedAfter")
abbrev mX5_read : zM := (cX5_read, RX5, 5, (some .int), { frames := 2, cells := 0, slots := 0, locals := 43 }, "read")
abbrev mX5_signAt : zM := (cX5_signAt, RX5, 2, (some .int), { frames := 1, cells := 0, slots := 0, locals := 22 }, "signAt")
abbrev mX5_isLetter : zM := (cX5_isLetter, RX5, 1, (some .boolean), { frames := 1, cells := 0, slots := 0, locals := 22 }, "isLetter")
abbrev mX6_init : zM := (cX6_init, RX6, 1, none, { frames := 1, cells := 1, slots := 100, locals := 20 }, "<init>")
abbrev mX6_priceOf : zM := (cX6_priceOf, RX6, 6, (some .int), { frames := 2, cells := 0, slots := 0, locals := 47 }, "priceOf")
abbrev mX6_cheapest : zM := (cX6_cheapest, RX6, 7, (some .int), { frames := 1, cells := 0, slots := 0, locals := 21 }, "cheapest")
abbrev mX7_init : zM := (cX7_init, RX7, 1, none, { frames := 1, cells := 1, slots := 256, locals := 20 }, "<init>")
abbrev mX7_find : zM := (cX7_find, RX7, 3, none, { frames := 2, cells := 0, slots := 0, locals := 43 }, "find")
abbrev mX7_shapeAt : zM := (cX7_shapeAt, RX7, 2, (some .int), { frames := 1, cells := 0, slots := 0, locals := 22 }, "shapeAt")
abbrev mX7_holdToTry : zM := (cX7_holdToTry, RX7, 4, (some .int), { frames := 2, cells := 0, slots := 0, locals := 44 }, "holdToTry")
abbrev mX7_mostLeftBy : zM := (cX7_mostLeftBy, RX7, 4, (some .int), { frames := 1, cells := 0, slots := 0, locals := 21 }, "mostLeftBy")
abbrev mX8_init : zM := (cX8_init, RX8, 1, none, { frames := 3, cells := 39, slots := 800, locals := 61 }, "<init>")
abbrev mX8_grief : zM := (cX8_grief, RX8, 4, (some .int), { frames := 2, cells := 0, slots := 0, locals := 42 }, "grief")
abbrev mX8_hold : zM := (cX8_hold, RX8, 6, (some .int), { frames := 2, cells := 0, slots := 0, locals := 42 }, "hold")
abbrev mX8_breath : zM := (cX8_breath, RX8, 3, (some .int), { frames := 1, cells := 0, slots := 0, locals := 22 }, "breath")
abbrev mX8_coat : zM := (cX8_coat, RX8, 5, (some .int), { frames := 2, cells := 0, slots := 0, locals := 43 }, "coat")
abbrev mX8_move : zM := (cX8_move, RX8, 4, (some .int), { frames := 2, cells := 0, slots := 0, locals := 42 }, "move")
abbrev mX8_say : zM := (cX8_say, RX8, 2, (some .int), { frames := 1, cells := 0, slots := 0, locals := 22 }, "say")
abbrev mX8_wipe : zM := (cX8_wipe, RX8, 2, (some .int), { frames := 0, cells := 0, slots := 0, locals := 0 }, "wipe")
abbrev mX8_fault : zM := (cX8_fault, RX8, 1, (some .int), { frames := 4, cells := 0, slots := 0, locals := 85 }, "fault")
abbrev mX8_judge : zM := (cX8_judge, RX8, 2, (some .int), { frames := 5, cells := 0, slots := 0, locals := 128 }, "judge")
abbrev mX8_done : zM := (cX8_done, RX8, 1, (some .int), { frames := 6, cells := 0, slots := 0, locals := 148 }, "done")
abbrev mX8_behind : zM := (cX8_behind, RX8, 3, (some .int), { frames := 6, cells := 0, slots := 0, locals := 148 }, "behind")
abbrev mX8_then : zM := (cX8_then, RX8, 2, (some .int), { frames := 6, cells := 0, slots := 0, locals := 148 }, "then")
abbrev mX8_fitting : zM := (cX8_fitting, RX8, 2, (some .int), { frames := 2, cells := 0, slots := 0, locals := 44 }, "fitting")
abbrev mX8_least : zM := (cX8_least, RX8, 4, (some .int), { frames := 3, cells := 0, slots := 0, locals := 72 }, "least")
abbrev mX8_order : zM := (cX8_order, RX8, 2, (some .int), { frames := 5, cells := 0, slots := 0, locals := 114 }, "order")
abbrev mX8_make : zM := (cX8_make, RX8, 4, (some .int), { frames := 3, cells := 0, slots := 0, locals := 68 }, "make")
abbrev mX8_ring : zM := (cX8_ring, RX8, 5, (some .int), { frames := 3, cells := 0, slots := 0, locals := 67 }, "ring")
abbrev mX8_seen : zM := (cX8_seen, RX8, 3, (some .int), { frames := 2, cells := 0, slots := 0, locals := 42 }, "seen")
abbrev mX8_forget : zM := (cX8_forget, RX8, 2, (some .int), { frames := 0, cells := 0, slots := 0, locals := 0 }, "forget")
abbrev mX8_shape : zM := (cX8_shape, RX8, 2, (some .int), { frames := 3, cells := 0, slots := 0, locals := 65 }, "shape")
abbrev mX8_ask : zM := (cX8_ask, RX8, 3, (some .int), { frames := 3, cells := 0, slots := 0, locals := 67 }, "ask")
abbrev mX8_play : zM := (cX8_play, RX8, 3, (some .int), { frames := 4, cells := 0, slots := 0, locals := 91 }, "play")
abbrev mX8_themselves : zM := (cX8_themselves, RX8, 10, (some .long), { frames := 1, cells := 0, slots := 0, locals := 25 }, "themselves")
abbrev mX8_year : zM := (cX8_year, RX8, 5, (some .int), { frames := 5, cells := 0, slots := 0, locals := 111 }, "year")
abbrev mX8_image : zM := (cX8_image, RX8, 2, (some .int), { frames := 3, cells := 11, slots := 85, locals := 83 }, "image")
abbrev mX8_restore : zM := (cX8_restore, RX8, 2, (some .int), { frames := 3, cells := 0, slots := 0, locals := 83 }, "restore")
abbrev mX8_told : zM := (cX8_told, RX8, 2, (some .int), { frames := 3, cells := 0, slots := 0, locals := 65 }, "told")
abbrev mX8_toldOfGrief : zM := (cX8_toldOfGrief, RX8, 3, (some .int), { frames := 2, cells := 0, slots := 0, locals := 43 }, "toldOfGrief")
abbrev mX8_tryDays : zM := (cX8_tryDays, RX8, 1, (some .boolean), { frames := 5, cells := 0, slots := 0, locals := 128 }, "tryDays")
abbrev mX8_isFrom : zM := (cX8_isFrom, RX8, 3, (some .boolean), { frames := 0, cells := 0, slots := 0, locals := 0 }, "isFrom")
abbrev mX8_isHold : zM := (cX8_isHold, RX8, 1, (some .boolean), { frames := 1, cells := 0, slots := 0, locals := 22 }, "isHold")
abbrev mX8_isState : zM := (cX8_isState, RX8, 1, (some .boolean), { frames := 1, cells := 0, slots := 0, locals := 22 }, "isState")
abbrev mX8_isSetOfMarks : zM := (cX8_isSetOfMarks, RX8, 1, (some .boolean), { frames := 1, cells := 0, slots := 0, locals := 22 }, "isSetOfMarks")
abbrev mX8_areHours : zM := (cX8_areHours, RX8, 2, (some .boolean), { frames := 1, cells := 0, slots := 0, locals := 22 }, "areHours")
abbrev mX8_isIn : zM := (cX8_isIn, RX8, 2, (some .boolean), { frames := 0, cells := 0, slots := 0, locals := 0 }, "isIn")
abbrev mX8_isWithin : zM := (cX8_isWithin, RX8, 2, (some .boolean), { frames := 0, cells := 0, slots := 0, locals := 0 }, "isWithin")
abbrev mX8_hoursFrom : zM := (cX8_hoursFrom, RX8, 2, (some .int), { frames := 0, cells := 0, slots := 0, locals := 0 }, "hoursFrom")
abbrev mX8_choose : zM := (cX8_choose, RX8, 5, (some .long), { frames := 0, cells := 0, slots := 0, locals := 0 }, "choose")
abbrev mX8_power : zM := (cX8_power, RX8, 6, (some .long), { frames := 0, cells := 0, slots := 0, locals := 0 }, "power")
abbrev mX8_copyRow : zM := (cX8_copyRow, RX8, 2, none, { frames := 1, cells := 0, slots := 0, locals := 40 }, "copyRow")
abbrev mX9_init : zM := (cX9_init, RX9, 2, none, { frames := 1, cells := 17, slots := 513, locals := 20 }, "<init>")
abbrev mX9_in : zM := (cX9_in, RX9, 3, (some .boolean), { frames := 0, cells := 0, slots := 0, locals := 0 }, "in")
abbrev mX9_has : zM := (cX9_has, RX9, 2, (some .boolean), { frames := 0, cells := 0, slots := 0, locals := 0 }, "has")
abbrev mX9_bits : zM := (cX9_bits, RX9, 3, (some .int), { frames := 0, cells := 0, slots := 0, locals := 0 }, "bits")
abbrev mX9_isThere : zM := (cX9_isThere, RX9, 2, (some .boolean), { frames := 1, cells := 0, slots := 0, locals := 22 }, "isThere")
abbrev mX9_grief : zM := (cX9_grief, RX9, 4, (some .int), { frames := 1, cells := 0, slots := 0, locals := 22 }, "grief")
abbrev mX9_hold : zM := (cX9_hold, RX9, 6, (some .int), { frames := 1, cells := 0, slots := 0, locals := 22 }, "hold")
abbrev mX9_breath : zM := (cX9_breath, RX9, 3, (some .int), { frames := 1, cells := 0, slots := 0, locals := 22 }, "breath")
abbrev mX9_coat : zM := (cX9_coat, RX9, 5, (some .int), { frames := 1, cells := 0, slots := 0, locals := 22 }, "coat")
abbrev mX9_move : zM := (cX9_move, RX9, 6, (some .int), { frames := 1, cells := 0, slots := 0, locals := 22 }, "move")
abbrev mX9_say : zM := (cX9_say, RX9, 2, (some .int), { frames := 1, cells := 0, slots := 0, locals := 22 }, "say")
abbrev mX9_wipe : zM := (cX9_wipe, RX9, 2, (some .int), { frames := 0, cells := 0, slots := 0, locals := 0 }, "wipe")
abbrev mX9_faultOf : zM := (cX9_faultOf, RX9, 6, (some .int), { frames := 1, cells := 0, slots := 0, locals := 22 }, "faultOf")
abbrev mX9_fault : zM := (cX9_fault, RX9, 1, (some .int), { frames := 2, cells := 0, slots := 0, locals := 47 }, "fault")
abbrev mX9_asNow : zM := (cX9_asNow, RX9, 2, none, { frames := 0, cells := 0, slots := 0, locals := 0 }, "asNow")
abbrev mX9_stands : zM := (cX9_stands, RX9, 2, (some .boolean), { frames := 1, cells := 0, slots := 0, locals := 22 }, "stands")
abbrev mX9_grip : zM := (cX9_grip, RX9, 3, (some .int), { frames := 2, cells := 0, slots := 0, locals := 43 }, "grip")
abbrev mX9_join : zM := (cX9_join, RX9, 3, (some .int), { frames := 2, cells := 0, slots := 0, locals := 43 }, "join")
abbrev mX9_sitBy : zM := (cX9_sitBy, RX9, 2, (some .int), { frames := 2, cells := 0, slots := 0, locals := 43 }, "sitBy")
abbrev mX9_rest : zM := (cX9_rest, RX9, 1, (some .int), { frames := 0, cells := 0, slots := 0, locals := 0 }, "rest")
abbrev mX9_endHour : zM := (cX9_endHour, RX9, 2, (some .int), { frames := 2, cells := 0, slots := 0, locals := 43 }, "endHour")
abbrev mX9_griefAct : zM := (cX9_griefAct, RX9, 4, (some .int), { frames := 3, cells := 0, slots := 0, locals := 65 }, "griefAct")
abbrev mX9_goDays : zM := (cX9_goDays, RX9, 5, (some .int), { frames := 4, cells := 0, slots := 0, locals := 88 }, "goDays")
abbrev mX9_judge : zM := (cX9_judge, RX9, 3, (some .int), { frames := 5, cells := 0, slots := 0, locals := 112 }, "judge")
abbrev mX9_barOfDays : zM := (cX9_barOfDays, RX9, 1, (some .int), { frames := 5, cells := 0, slots := 0, locals := 112 }, "barOfDays")
abbrev mX9_done : zM := (cX9_done, RX9, 2, (some .int), { frames := 6, cells := 0, slots := 0, locals := 132 }, "done")
abbrev mX9_behind : zM := (cX9_behind, RX9, 3, (some .int), { frames := 6, cells := 0, slots := 0, locals := 132 }, "behind")
abbrev mX9_then : zM := (cX9_then, RX9, 2, (some .int), { frames := 6, cells := 0, slots := 0, locals := 132 }, "then")
abbrev mX9_fitsOf : zM := (cX9_fitsOf, RX9, 4, (some .int), { frames := 0, cells := 0, slots := 0, locals := 0 }, "fitsOf")
abbrev mX9_fitting : zM := (cX9_fitting, RX9, 2, (some .int), { frames := 2, cells := 0, slots := 0, locals := 43 }, "fitting")
abbrev mX9_leastOf : zM := (cX9_leastOf, RX9, 7, (some .int), { frames := 1, cells := 0, slots := 0, locals := 23 }, "leastOf")
abbrev mX9_least : zM := (cX9_least, RX9, 4, (some .int), { frames := 2, cells := 0, slots := 0, locals := 49 }, "least")
abbrev mX9_order : zM := (cX9_order, RX9, 9, (some .int), { frames := 2, cells := 0, slots := 0, locals := 49 }, "order")
abbrev mX9_make : zM := (cX9_make, RX9, 9, (some .int), { frames := 1, cells := 0, slots := 0, locals := 22 }, "make")
abbrev mX9_ring : zM := (cX9_ring, RX9, 10, (some .int), { frames := 1, cells := 0, slots := 0, locals := 22 }, "ring")
abbrev mX9_seen : zM := (cX9_seen, RX9, 3, (some .int), { frames := 1, cells := 0, slots := 0, locals := 22 }, "seen")
abbrev mX9_forget : zM := (cX9_forget, RX9, 2, (some .int), { frames := 0, cells := 0, slots := 0, locals := 0 }, "forget")
abbrev mX9_isFit : zM := (cX9_isFit, RX9, 4, (some .boolean), { frames := 0, cells := 0, slots := 0, locals := 0 }, "isFit")
abbrev mX9_shape : zM := (cX9_shape, RX9, 4, (some .int), { frames := 1, cells := 0, slots := 0, locals := 23 }, "shape")
abbrev mX9_ask : zM := (cX9_ask, RX9, 9, (some .int), { frames := 1, cells := 0, slots := 0, locals := 23 }, "ask")
abbrev mX9_layMud : zM := (cX9_layMud, RX9, 7, none, { frames := 1, cells := 0, slots := 0, locals := 21 }, "layMud")
abbrev mX9_play : zM := (cX9_play, RX9, 5, (some .int), { frames := 2, cells := 0, slots := 0, locals := 47 }, "play")
abbrev mX9_themselves : zM := (cX9_themselves, RX9, 13, (some .long), { frames := 1, cells := 0, slots := 0, locals := 22 }, "themselves")
abbrev mX9_year : zM := (cX9_year, RX9, 8, (some .int), { frames := 3, cells := 0, slots := 0, locals := 65 }, "year")
abbrev mX9_image : zM := (cX9_image, RX9, 4, (some .int), { frames := 1, cells := 0, slots := 0, locals := 22 }, "image")
abbrev mX9_restore : zM := (cX9_restore, RX9, 4, (some .int), { frames := 1, cells := 0, slots := 0, locals := 22 }, "restore")
abbrev mX9_told : zM := (cX9_told, RX9, 3, (some .int), { frames := 2, cells := 0, slots := 0, locals := 43 }, "told")
abbrev mJ6_bitCount_0f7a4 : zM := (cJ6_bitCount_0f7a4, RJ6, 1, (some .int), { frames := 0, cells := 0, slots := 0, locals := 0 }, "bitCount")
abbrev mJ9_max_7cf53 : zM := (cJ9_max_7cf53, RJ9, 2, (some .int), { frames := 0, cells := 0, slots := 0, locals := 0 }, "max")
abbrev mJ9_min_7cf53 : zM := (cJ9_min_7cf53, RJ9, 2, (some .int), { frames := 0, cells := 0, slots := 0, locals := 0 }, "min")
theorem inlX0 : ∀ w ∈ wsX00, w ∈ wsL_law := zin_of [155, 157, 159] (by decide +kernel) (by decide +kernel)
theorem inlX1 : ∀ w ∈ wsX10, w ∈ wsL_law := zin_of [175, 177, 179, 181, 183, 185, 187] (by decide +kernel) (by decide +kernel)
theorem inlX2 : ∀ w ∈ wsX20, w ∈ wsL_law := zin_of [245, 247] (by decide +kernel) (by decide +kernel)
theorem inlX3 : ∀ w ∈ wsX30, w ∈ wsL_law := zin_of [89, 91, 93, 95, 97, 99, 101, 103, 105, 107, 109, 111, 113] (by decide +kernel) (by decide +kernel)
theorem inlX4 : ∀ w ∈ wsX40, w ∈ wsL_law := zin_of [212, 214, 216, 218] (by decide +kernel) (by decide +kernel)
theorem inlX5 : ∀ w ∈ wsX50, w ∈ wsL_law := zin_of [128, 130] (by decide +kernel) (by decide +kernel)
theorem inlX6 : ∀ w ∈ wsX60, w ∈ wsL_law := zin_of [197] (by decide +kernel) (by decide +kernel)
theorem inlX7 : ∀ w ∈ wsX70, w ∈ wsL_law := zin_of [230, 232] (by decide +kernel) (by decide +kernel)
theorem inlX8 : ∀ w ∈ wsX80, w ∈ wsL_law := zin_of [259, 261, 263, 265, 267, 269, 271, 273] (by decide +kernel) (by decide +kernel)
theorem inlX9 : ∀ w ∈ wsX90, w ∈ wsL_law := zin_of [699, 701, 703, 705, 707, 709, 711, 713, 715, 717, 719, 721, 723, 725, 727, 729, 731, 733, 735, 737, 739, 741, 743, 745] (by decide +kernel) (by decide +kernel)
theorem fl_X3_9 : zFl RX3 9 3 0 := ⟨RX3, TX3, 13, rfl, rfl, inlX3, (zmem 61 (by decide +kernel) rfl), rfl, by decide⟩
theorem fq_X3_9 : zFq RX3 9 3 0 := ⟨TX3, 13, tyX3, rfl, rfl, inlX3, (zmem 61 (by decide +kernel) rfl), rfl, by decide, tyX3_ok, nmX3, rfl, fun _ => ⟨rfl, rfl⟩, rfl⟩
theorem fl_X6_21 : zFl RX6 21 3 0 := ⟨RX3, TX3, 13, rfl, rfl, inlX3, (zmem 62 (by decide +kernel) rfl), rfl, by decide⟩
theorem fl_X8_70 : zFl RX8 70 3 0 := ⟨RX3, TX3, 13, rfl, rfl, inlX3, (zmem 63 (by decide +kernel) rfl), rfl, by decide⟩
theorem fl_X3_15 : zFl RX3 15 3 1 := ⟨RX3, TX3, 13, rfl, rfl, inlX3, (zmem 64 (by decide +kernel) rfl), rfl, by decide⟩
theorem fq_X3_15 : zFq RX3 15 3 1 := ⟨TX3, 13, tyX3, rfl, rfl, inlX3, (zmem 64 (by decide +kernel) rfl), rfl, by decide, tyX3_ok, nmX3, rfl, fun _ => ⟨rfl, rfl⟩, rfl⟩
theorem fl_X8_74 : zFl RX8 74 3 1 := ⟨RX3, TX3, 13, rfl, rfl, inlX3, (zmem 65 (by decide +kernel) rfl), rfl, by decide⟩
theorem fl_X3_18 : zFl RX3 18 3 2 := ⟨RX3, TX3, 13, rfl, rfl, inlX3, (zmem 66 (by decide +kernel) rfl), rfl, by decide⟩
theorem fq_X3_18 : zFq RX3 18 3 2 := ⟨TX3, 13, tyX3, rfl, rfl, inlX3, (zmem 66 (by decide +kernel) rfl), rfl, by decide, tyX3_ok, nmX3, rfl, fun _ => ⟨rfl, rfl⟩, rfl⟩
theorem fl_X8_93 : zFl RX8 93 3 2 := ⟨RX3, TX3, 13, rfl, rfl, inlX3, (zmem 67 (by decide +kernel) rfl), rfl, by decide⟩
theorem fl_X7_29 : zFl RX7 29 3 2 := ⟨RX3, TX3, 13, rfl, rfl, inlX3, (zmem 68 (by decide +kernel) rfl), rfl, by decide⟩
theorem fl_X3_21 : zFl RX3 21 3 3 := ⟨RX3, TX3, 13, rfl, rfl, inlX3, (zmem 69 (by decide +kernel) rfl), rfl, by decide⟩
theorem fq_X3_21 : zFq RX3 21 3 3 := ⟨TX3, 13, tyX3, rfl, rfl, inlX3, (zmem 69 (by decide +kernel) rfl), rfl, by decide, tyX3_ok, nmX3, rfl, fun _ => ⟨rfl, rfl⟩, rfl⟩
theorem fl_X6_37 : zFl RX6 37 3 3 := ⟨RX3, TX3, 13, rfl, rfl, inlX3, (zmem 70 (by decide +kernel) rfl), rfl, by decide⟩
theorem fl_X8_96 : zFl RX8 96 3 3 := ⟨RX3, TX3, 13, rfl, rfl, inlX3, (zmem 71 (by decide +kernel) rfl), rfl, by decide⟩
theorem fl_X3_24 : zFl RX3 24 3 4 := ⟨RX3, TX3, 13, rfl, rfl, inlX3, (zmem 72 (by decide +kernel) rfl), rfl, by decide⟩
theorem fq_X3_24 : zFq RX3 24 3 4 := ⟨TX3, 13, tyX3, rfl, rfl, inlX3, (zmem 72 (by decide +kernel) rfl), rfl, by decide, tyX3_ok, nmX3, rfl, fun _ => ⟨rfl, rfl⟩, rfl⟩
theorem fl_X6_46 : zFl RX6 46 3 4 := ⟨RX3, TX3, 13, rfl, rfl, inlX3, (zmem 73 (by decide +kernel) rfl), rfl, by decide⟩
theorem fl_X8_99 : zFl RX8 99 3 4 := ⟨RX3, TX3, 13, rfl, rfl, inlX3, (zmem 74 (by decide +kernel) rfl), rfl, by decide⟩
theorem fl_X3_27 : zFl RX3 27 3 5 := ⟨RX3, TX3, 13, rfl, rfl, inlX3, (zmem 75 (by decide +kernel) rfl), rfl, by decide⟩
theorem fq_X3_27 : zFq RX3 27 3 5 := ⟨TX3, 13, tyX3, rfl, rfl, inlX3, (zmem 75 (by decide +kernel) rfl), rfl, by decide, tyX3_ok, nmX3, rfl, fun _ => ⟨rfl, rfl⟩, rfl⟩
theorem fl_X8_113 : zFl RX8 113 3 5 := ⟨RX3, TX3, 13, rfl, rfl, inlX3, (zmem 76 (by decide +kernel) rfl), rfl, by decide⟩
theorem fl_X3_30 : zFl RX3 30 3 6 := ⟨RX3, TX3, 13, rfl, rfl, inlX3, (zmem 77 (by decide +kernel) rfl), rfl, by decide⟩
theorem fq_X3_30 : zFq RX3 30 3 6 := ⟨TX3, 13, tyX3, rfl, rfl, inlX3, (zmem 77 (by decide +kernel) rfl), rfl, by decide, tyX3_ok, nmX3, rfl, fun _ => ⟨rfl, rfl⟩, rfl⟩
theorem fl_X8_116 : zFl RX8 116 3 6 := ⟨RX3, TX3, 13, rfl, rfl, inlX3, (zmem 78 (by decide +kernel) rfl), rfl, by decide⟩
theorem fl_X3_33 : zFl RX3 33 3 7 := ⟨RX3, TX3, 13, rfl, rfl, inlX3, (zmem 79 (by decide +kernel) rfl), rfl, by decide⟩
theorem fq_X3_33 : zFq RX3 33 3 7 := ⟨TX3, 13, tyX3, rfl, rfl, inlX3, (zmem 79 (by decide +kernel) rfl), rfl, by decide, tyX3_ok, nmX3, rfl, fun _ => ⟨rfl, rfl⟩, rfl⟩
theorem fl_X8_122 : zFl RX8 122 3 7 := ⟨RX3, TX3, 13, rfl, rfl, inlX3, (zmem 80 (by decide +kernel) rfl), rfl, by decide⟩
theorem fl_X3_36 : zFl RX3 36 3 8 := ⟨RX3, TX3, 13, rfl, rfl, inlX3, (zmem 81 (by decide +kernel) rfl), rfl, by decide⟩
theorem fq_X3_36 : zFq RX3 36 3 8 := ⟨TX3, 13, tyX3, rfl, rfl, inlX3, (zmem 81 (by decide +kernel) rfl), rfl, by decide, tyX3_ok, nmX3, rfl, fun _ => ⟨rfl, rfl⟩, rfl⟩
theorem fl_X3_39 : zFl RX3 39 3 9 := ⟨RX3, TX3, 13, rfl, rfl, inlX3, (zmem 82 (by decide +kernel) rfl), rfl, by decide⟩
theorem fq_X3_39 : zFq RX3 39 3 9 := ⟨TX3, 13, tyX3, rfl, rfl, inlX3, (zmem 82 (by decide +kernel) rfl), rfl, by decide, tyX3_ok, nmX3, rfl, fun _ => ⟨rfl, rfl⟩, rfl⟩
theorem fl_X3_43 : zFl RX3 43 3 10 := ⟨RX3, TX3, 13, rfl, rfl, inlX3, (zmem 83 (by decide +kernel) rfl), rfl, by decide⟩
theorem fp_X3_43 : zFp RX3 43 3 10 := ⟨RX3, TX3, 13, tyX3, rfl, rfl, inlX3, (zmem 83 (by decide +kernel) rfl), rfl, by decide, tyX3_ok, nmX3, rfl, rfl, rfl⟩
theorem fl_X8_210 : zFl RX8 210 3 10 := ⟨RX3, TX3, 13, rfl, rfl, inlX3, (zmem 84 (by decide +kernel) rfl), rfl, by decide⟩
theorem fp_X8_210 : zFp RX8 210 3 10 := ⟨RX3, TX3, 13, tyX3, rfl, rfl, inlX3, (zmem 84 (by decide +kernel) rfl), rfl, by decide, tyX3_ok, nmX3, rfl, rfl, rfl⟩
theorem fl_X3_47 : zFl RX3 47 3 11 := ⟨RX3, TX3, 13, rfl, rfl, inlX3, (zmem 85 (by decide +kernel) rfl), rfl, by decide⟩
theorem fp_X3_47 : zFp RX3 47 3 11 := ⟨RX3, TX3, 13, tyX3, rfl, rfl, inlX3, (zmem 85 (by decide +kernel) rfl), rfl, by decide, tyX3_ok, nmX3, rfl, rfl, rfl⟩
theorem fl_X8_102 : zFl RX8 102 3 11 := ⟨RX3, TX3, 13, rfl, rfl, inlX3, (zmem 86 (by decide +kernel) rfl), rfl, by decide⟩
theorem fp_X8_102 : zFp RX8 102 3 11 := ⟨RX3, TX3, 13, tyX3, rfl, rfl, inlX3, (zmem 86 (by decide +kernel) rfl), rfl, by decide, tyX3_ok, nmX3, rfl, rfl, rfl⟩
theorem fl_X3_50 : zFl RX3 50 3 12 := ⟨RX3, TX3, 13, rfl, rfl, inlX3, (zmem 87 (by decide +kernel) rfl), rfl, by decide⟩
theorem fp_X3_50 : zFp RX3 50 3 12 := ⟨RX3, TX3, 13, tyX3, rfl, rfl, inlX3, (zmem 87 (by decide +kernel) rfl), rfl, by decide, tyX3_ok, nmX3, rfl, rfl, rfl⟩
theorem fl_X8_165 : zFl RX8 165 3 12 := ⟨RX3, TX3, 13, rfl, rfl, inlX3, (zmem 88 (by decide +kernel) rfl), rfl, by decide⟩
theorem fp_X8_165 : zFp RX8 165 3 12 := ⟨RX3, TX3, 13, tyX3, rfl, rfl, inlX3, (zmem 88 (by decide +kernel) rfl), rfl, by decide, tyX3_ok, nmX3, rfl, rfl, rfl⟩
theorem fl_X5_9 : zFl RX5 9 5 0 := ⟨RX5, TX5, 2, rfl, rfl, inlX5, (zmem 124 (by decide +kernel) rfl), rfl, by decide⟩
theorem fq_X5_9 : zFq RX5 9 5 0 := ⟨TX5, 2, tyX5, rfl, rfl, inlX5, (zmem 124 (by decide +kernel) rfl), rfl, by decide, tyX5_ok, nmX5, rfl, fun _ => ⟨rfl, rfl⟩, rfl⟩
theorem fl_X5_15 : zFl RX5 15 5 1 := ⟨RX5, TX5, 2, rfl, rfl, inlX5, (zmem 125 (by decide +kernel) rfl), rfl, by decide⟩
theorem fp_X5_15 : zFp RX5 15 5 1 := ⟨RX5, TX5, 2, tyX5, rfl, rfl, inlX5, (zmem 125 (by decide +kernel) rfl), rfl, by decide, tyX5_ok, nmX5, rfl, rfl, rfl⟩
theorem fl_X1_45 : zFl RX1 45 5 1 := ⟨RX5, TX5, 2, rfl, rfl, inlX5, (zmem 126 (by decide +kernel) rfl), rfl, by decide⟩
theorem fp_X1_45 : zFp RX1 45 5 1 := ⟨RX5, TX5, 2, tyX5, rfl, rfl, inlX5, (zmem 126 (by decide +kernel) rfl), rfl, by decide, tyX5_ok, nmX5, rfl, rfl, rfl⟩
theorem fl_X8_131 : zFl RX8 131 5 1 := ⟨RX5, TX5, 2, rfl, rfl, inlX5, (zmem 127 (by decide +kernel) rfl), rfl, by decide⟩
theorem fp_X8_131 : zFp RX8 131 5 1 := ⟨RX5, TX5, 2, tyX5, rfl, rfl, inlX5, (zmem 127 (by decide +kernel) rfl), rfl, by decide, tyX5_ok, nmX5, rfl, rfl, rfl⟩
theorem fl_X0_9 : zFl RX0 9 0 0 := ⟨RX0, TX0, 3, rfl, rfl, inlX0, (zmem 147 (by decide +kernel) rfl), rfl, by decide⟩
theorem fp_X0_9 : zFp RX0 9 0 0 := ⟨RX0, TX0, 3, tyX0, rfl, rfl, inlX0, (zmem 147 (by decide +kernel) rfl), rfl, by decide, tyX0_ok, nmX0, rfl, rfl, rfl⟩
theorem fl_X1_64 : zFl RX1 64 0 0 := ⟨RX0, TX0, 3, rfl, rfl, inlX0, (zmem 148 (by decide +kernel) rfl), rfl, by decide⟩
theorem fp_X1_64 : zFp RX1 64 0 0 := ⟨RX0, TX0, 3, tyX0, rfl, rfl, inlX0, (zmem 148 (by decide +kernel) rfl), rfl, by decide, tyX0_ok, nmX0, rfl, rfl, rfl⟩
theorem fl_X3_71 : zFl RX3 71 0 0 := ⟨RX0, TX0, 3, rfl, rfl, inlX0, (zmem 149 (by decide +kernel) rfl), rfl, by decide⟩
theorem fp_X3_71 : zFp RX3 71 0 0 := ⟨RX0, TX0, 3, tyX0, rfl, rfl, inlX0, (zmem 149 (by decide +kernel) rfl), rfl, by decide, tyX0_ok, nmX0, rfl, rfl, rfl⟩
theorem fl_X0_13 : zFl RX0 13 0 1 := ⟨RX0, TX0, 3, rfl, rfl, inlX0, (zmem 150 (by decide +kernel) rfl), rfl, by decide⟩
theorem fp_X0_13 : zFp RX0 13 0 1 := ⟨RX0, TX0, 3, tyX0, rfl, rfl, inlX0, (zmem 150 (by decide +kernel) rfl), rfl, by decide, tyX0_ok, nmX0, rfl, rfl, rfl⟩
theorem fl_X1_67 : zFl RX1 67 0 1 := ⟨RX0, TX0, 3, rfl, rfl, inlX0, (zmem 151 (by decide +kernel) rfl), rfl, by decide⟩
theorem fp_X1_67 : zFp RX1 67 0 1 := ⟨RX0, TX0, 3, tyX0, rfl, rfl, inlX0, (zmem 151 (by decide +kernel) rfl), rfl, by decide, tyX0_ok, nmX0, rfl, rfl, rfl⟩
theorem fl_X3_76 : zFl RX3 76 0 1 := ⟨RX0, TX0, 3, rfl, rfl, inlX0, (zmem 152 (by decide +kernel) rfl), rfl, by decide⟩
theorem fp_X3_76 : zFp RX3 76 0 1 := ⟨RX0, TX0, 3, tyX0, rfl, rfl, inlX0, (zmem 152 (by decide +kernel) rfl), rfl, by decide, tyX0_ok, nmX0, rfl, rfl, rfl⟩
theorem fl_X0_16 : zFl RX0 16 0 2 := ⟨RX0, TX0, 3, rfl, rfl, inlX0, (zmem 153 (by decide +kernel) rfl), rfl, by decide⟩
theorem fp_X0_16 : zFp RX0 16 0 2 := ⟨RX0, TX0, 3, tyX0, rfl, rfl, inlX0, (zmem 153 (by decide +kernel) rfl), rfl, by decide, tyX0_ok, nmX0, rfl, rfl, rfl⟩
theorem fl_X3_79 : zFl RX3 79 0 2 := ⟨RX0, TX0, 3, rfl, rfl, inlX0, (zmem 154 (by decide +kernel) rfl), rfl, by decide⟩
theorem fp_X3_79 : zFp RX3 79 0 2 := ⟨RX0, TX0, 3, tyX0, rfl, rfl, inlX0, (zmem 154 (by decide +kernel) rfl), rfl, by decide, tyX0_ok, nmX0, rfl, rfl, rfl⟩
theorem fl_X1_12 : zFl RX1 12 1 0 := ⟨RX1, TX1, 7, rfl, rfl, inlX1, (zmem 162 (by decide +kernel) rfl), rfl, by decide⟩
theorem fq_X1_12 : zFq RX1 12 1 0 := ⟨TX1, 7, tyX1, rfl, rfl, inlX1, (zmem 162 (by decide +kernel) rfl), rfl, by decide, tyX1_ok, nmX1, rfl, fun _ => ⟨rfl, rfl⟩, rfl⟩
theorem fl_X8_151 : zFl RX8 151 1 0 := ⟨RX1, TX1, 7, rfl, rfl, inlX1, (zmem 163 (by decide +kernel) rfl), rfl, by decide⟩
theorem fl_X1_21 : zFl RX1 21 1 1 := ⟨RX1, TX1, 7, rfl, rfl, inlX1, (zmem 164 (by decide +kernel) rfl), rfl, by decide⟩
theorem fq_X1_21 : zFq RX1 21 1 1 := ⟨TX1, 7, tyX1, rfl, rfl, inlX1, (zmem 164 (by decide +kernel) rfl), rfl, by decide, tyX1_ok, nmX1, rfl, fun _ => ⟨rfl, rfl⟩, rfl⟩
theorem fl_X1_25 : zFl RX1 25 1 2 := ⟨RX1, TX1, 7, rfl, rfl, inlX1, (zmem 165 (by decide +kernel) rfl), rfl, by decide⟩
theorem fp_X1_25 : zFp RX1 25 1 2 := ⟨RX1, TX1, 7, tyX1, rfl, rfl, inlX1, (zmem 165 (by decide +kernel) rfl), rfl, by decide, tyX1_ok, nmX1, rfl, rfl, rfl⟩
theorem fl_X8_144 : zFl RX8 144 1 2 := ⟨RX1, TX1, 7, rfl, rfl, inlX1, (zmem 166 (by decide +kernel) rfl), rfl, by decide⟩
theorem fp_X8_144 : zFp RX8 144 1 2 := ⟨RX1, TX1, 7, tyX1, rfl, rfl, inlX1, (zmem 166 (by decide +kernel) rfl), rfl, by decide, tyX1_ok, nmX1, rfl, rfl, rfl⟩
theorem fl_X1_29 : zFl RX1 29 1 3 := ⟨RX1, TX1, 7, rfl, rfl, inlX1, (zmem 167 (by decide +kernel) rfl), rfl, by decide⟩
theorem fp_X1_29 : zFp RX1 29 1 3 := ⟨RX1, TX1, 7, tyX1, rfl, rfl, inlX1, (zmem 167 (by decide +kernel) rfl), rfl, by decide, tyX1_ok, nmX1, rfl, rfl, rfl⟩
theorem fl_X8_141 : zFl RX8 141 1 3 := ⟨RX1, TX1, 7, rfl, rfl, inlX1, (zmem 168 (by decide +kernel) rfl), rfl, by decide⟩
theorem fp_X8_141 : zFp RX8 141 1 3 := ⟨RX1, TX1, 7, tyX1, rfl, rfl, inlX1, (zmem 168 (by decide +kernel) rfl), rfl, by decide, tyX1_ok, nmX1, rfl, rfl, rfl⟩
theorem fl_X1_32 : zFl RX1 32 1 4 := ⟨RX1, TX1, 7, rfl, rfl, inlX1, (zmem 169 (by decide +kernel) rfl), rfl, by decide⟩
theorem fp_X1_32 : zFp RX1 32 1 4 := ⟨RX1, TX1, 7, tyX1, rfl, rfl, inlX1, (zmem 169 (by decide +kernel) rfl), rfl, by decide, tyX1_ok, nmX1, rfl, rfl, rfl⟩
theorem fl_X8_168 : zFl RX8 168 1 4 := ⟨RX1, TX1, 7, rfl, rfl, inlX1, (zmem 170 (by decide +kernel) rfl), rfl, by decide⟩
theorem fp_X8_168 : zFp RX8 168 1 4 := ⟨RX1, TX1, 7, tyX1, rfl, rfl, inlX1, (zmem 170 (by decide +kernel) rfl), rfl, by decide, tyX1_ok, nmX1, rfl, rfl, rfl⟩
theorem fl_X1_35 : zFl RX1 35 1 5 := ⟨RX1, TX1, 7, rfl, rfl, inlX1, (zmem 171 (by decide +kernel) rfl), rfl, by decide⟩
theorem fp_X1_35 : zFp RX1 35 1 5 := ⟨RX1, TX1, 7, tyX1, rfl, rfl, inlX1, (zmem 171 (by decide +kernel) rfl), rfl, by decide, tyX1_ok, nmX1, rfl, rfl, rfl⟩
theorem fl_X8_171 : zFl RX8 171 1 5 := ⟨RX1, TX1, 7, rfl, rfl, inlX1, (zmem 172 (by decide +kernel) rfl), rfl, by decide⟩
theorem fp_X8_171 : zFp RX8 171 1 5 := ⟨RX1, TX1, 7, tyX1, rfl, rfl, inlX1, (zmem 172 (by decide +kernel) rfl), rfl, by decide, tyX1_ok, nmX1, rfl, rfl, rfl⟩
theorem fl_X1_38 : zFl RX1 38 1 6 := ⟨RX1, TX1, 7, rfl, rfl, inlX1, (zmem 173 (by decide +kernel) rfl), rfl, by decide⟩
theorem fp_X1_38 : zFp RX1 38 1 6 := ⟨RX1, TX1, 7, tyX1, rfl, rfl, inlX1, (zmem 173 (by decide +kernel) rfl), rfl, by decide, tyX1_ok, nmX1, rfl, rfl, rfl⟩
theorem fl_X8_174 : zFl RX8 174 1 6 := ⟨RX1, TX1, 7, rfl, rfl, inlX1, (zmem 174 (by decide +kernel) rfl), rfl, by decide⟩
theorem fp_X8_174 : zFp RX8 174 1 6 := ⟨RX1, TX1, 7, tyX1, rfl, rfl, inlX1, (zmem 174 (by decide +kernel) rfl), rfl, by decide, tyX1_ok, nmX1, rfl, rfl, rfl⟩
theorem fl_X6_9 : zFl RX6 9 6 0 := ⟨RX6, TX6, 1, rfl, rfl, inlX6, (zmem 196 (by decide +kernel) rfl), rfl, by decide⟩
theorem fq_X6_9 : zFq RX6 9 6 0 := ⟨TX6, 1, tyX6, rfl, rfl, inlX6, (zmem 196 (by decide +kernel) rfl), rfl, by decide, tyX6_ok, nmX6, rfl, fun _ => ⟨rfl, rfl⟩, rfl⟩
theorem fl_X4_12 : zFl RX4 12 4 0 := ⟨RX4, TX4, 4, rfl, rfl, inlX4, (zmem 208 (by decide +kernel) rfl), rfl, by decide⟩
theorem fq_X4_12 : zFq RX4 12 4 0 := ⟨TX4, 4, tyX4, rfl, rfl, inlX4, (zmem 208 (by decide +kernel) rfl), rfl, by decide, tyX4_ok, nmX4, rfl, fun _ => ⟨rfl, rfl⟩, rfl⟩
theorem fl_X4_18 : zFl RX4 18 4 1 := ⟨RX4, TX4, 4, rfl, rfl, inlX4, (zmem 209 (by decide +kernel) rfl), rfl, by decide⟩
theorem fq_X4_18 : zFq RX4 18 4 1 := ⟨TX4, 4, tyX4, rfl, rfl, inlX4, (zmem 209 (by decide +kernel) rfl), rfl, by decide, tyX4_ok, nmX4, rfl, fun _ => ⟨rfl, rfl⟩, rfl⟩
theorem fl_X4_22 : zFl RX4 22 4 2 := ⟨RX4, TX4, 4, rfl, rfl, inlX4, (zmem 210 (by decide +kernel) rfl), rfl, by decide⟩
theorem fq_X4_22 : zFq RX4 22 4 2 := ⟨TX4, 4, tyX4, rfl, rfl, inlX4, (zmem 210 (by decide +kernel) rfl), rfl, by decide, tyX4_ok, nmX4, rfl, fun _ => ⟨rfl, rfl⟩, rfl⟩
theorem fl_X4_25 : zFl RX4 25 4 3 := ⟨RX4, TX4, 4, rfl, rfl, inlX4, (zmem 211 (by decide +kernel) rfl), rfl, by decide⟩
theorem fp_X4_25 : zFp RX4 25 4 3 := ⟨RX4, TX4, 4, tyX4, rfl, rfl, inlX4, (zmem 211 (by decide +kernel) rfl), rfl, by decide, tyX4_ok, nmX4, rfl, rfl, rfl⟩
theorem fl_X7_9 : zFl RX7 9 7 0 := ⟨RX7, TX7, 2, rfl, rfl, inlX7, (zmem 227 (by decide +kernel) rfl), rfl, by decide⟩
theorem fq_X7_9 : zFq RX7 9 7 0 := ⟨TX7, 2, tyX7, rfl, rfl, inlX7, (zmem 227 (by decide +kernel) rfl), rfl, by decide, tyX7_ok, nmX7, rfl, fun _ => ⟨rfl, rfl⟩, rfl⟩
theorem fl_X7_15 : zFl RX7 15 7 1 := ⟨RX7, TX7, 2, rfl, rfl, inlX7, (zmem 228 (by decide +kernel) rfl), rfl, by decide⟩
theorem fp_X7_15 : zFp RX7 15 7 1 := ⟨RX7, TX7, 2, tyX7, rfl, rfl, inlX7, (zmem 228 (by decide +kernel) rfl), rfl, by decide, tyX7_ok, nmX7, rfl, rfl, rfl⟩
theorem fl_X8_216 : zFl RX8 216 7 1 := ⟨RX7, TX7, 2, rfl, rfl, inlX7, (zmem 229 (by decide +kernel) rfl), rfl, by decide⟩
theorem fp_X8_216 : zFp RX8 216 7 1 := ⟨RX7, TX7, 2, tyX7, rfl, rfl, inlX7, (zmem 229 (by decide +kernel) rfl), rfl, by decide, tyX7_ok, nmX7, rfl, rfl, rfl⟩
theorem fl_X2_9 : zFl RX2 9 2 0 := ⟨RX2, TX2, 2, rfl, rfl, inlX2, (zmem 241 (by decide +kernel) rfl), rfl, by decide⟩
theorem fq_X2_9 : zFq RX2 9 2 0 := ⟨TX2, 2, tyX2, rfl, rfl, inlX2, (zmem 241 (by decide +kernel) rfl), rfl, by decide, tyX2_ok, nmX2, rfl, fun _ => ⟨rfl, rfl⟩, rfl⟩
theorem fl_X8_230 : zFl RX8 230 2 0 := ⟨RX2, TX2, 2, rfl, rfl, inlX2, (zmem 242 (by decide +kernel) rfl), rfl, by decide⟩
theorem fl_X2_15 : zFl RX2 15 2 1 := ⟨RX2, TX2, 2, rfl, rfl, inlX2, (zmem 243 (by decide +kernel) rfl), rfl, by decide⟩
theorem fq_X2_15 : zFq RX2 15 2 1 := ⟨TX2, 2, tyX2, rfl, rfl, inlX2, (zmem 243 (by decide +kernel) rfl), rfl, by decide, tyX2_ok, nmX2, rfl, fun _ => ⟨rfl, rfl⟩, rfl⟩
theorem fl_X8_233 : zFl RX8 233 2 1 := ⟨RX2, TX2, 2, rfl, rfl, inlX2, (zmem 244 (by decide +kernel) rfl), rfl, by decide⟩
theorem fl_X8_10 : zFl RX8 10 8 0 := ⟨RX8, TX8, 8, rfl, rfl, inlX8, (zmem 251 (by decide +kernel) rfl), rfl, by decide⟩
theorem fq_X8_10 : zFq RX8 10 8 0 := ⟨TX8, 8, tyX8, rfl, rfl, inlX8, (zmem 251 (by decide +kernel) rfl), rfl, by decide, tyX8_ok, nmX8, rfl, fun _ => ⟨rfl, rfl⟩, rfl⟩
theorem fl_X8_19 : zFl RX8 19 8 1 := ⟨RX8, TX8, 8, rfl, rfl, inlX8, (zmem 252 (by decide +kernel) rfl), rfl, by decide⟩
theorem fq_X8_19 : zFq RX8 19 8 1 := ⟨TX8, 8, tyX8, rfl, rfl, inlX8, (zmem 252 (by decide +kernel) rfl), rfl, by decide, tyX8_ok, nmX8, rfl, fun _ => ⟨rfl, rfl⟩, rfl⟩
theorem fl_X8_26 : zFl RX8 26 8 2 := ⟨RX8, TX8, 8, rfl, rfl, inlX8, (zmem 253 (by decide +kernel) rfl), rfl, by decide⟩
theorem fq_X8_26 : zFq RX8 26 8 2 := ⟨TX8, 8, tyX8, rfl, rfl, inlX8, (zmem 253 (by decide +kernel) rfl), rfl, by decide, tyX8_ok, nmX8, rfl, fun _ => ⟨rfl, rfl⟩, rfl⟩
theorem fl_X8_33 : zFl RX8 33 8 3 := ⟨RX8, TX8, 8, rfl, rfl, inlX8, (zmem 254 (by decide +kernel) rfl), rfl, by decide⟩
theorem fq_X8_33 : zFq RX8 33 8 3 := ⟨TX8, 8, tyX8, rfl, rfl, inlX8, (zmem 254 (by decide +kernel) rfl), rfl, by decide, tyX8_ok, nmX8, rfl, fun _ => ⟨rfl, rfl⟩, rfl⟩
theorem fl_X8_40 : zFl RX8 40 8 4 := ⟨RX8, TX8, 8, rfl, rfl, inlX8, (zmem 255 (by decide +kernel) rfl), rfl, by decide⟩
theorem fq_X8_40 : zFq RX8 40 8 4 := ⟨TX8, 8, tyX8, rfl, rfl, inlX8, (zmem 255 (by decide +kernel) rfl), rfl, by decide, tyX8_ok, nmX8, rfl, fun _ => ⟨rfl, rfl⟩, rfl⟩
theorem fl_X8_47 : zFl RX8 47 8 5 := ⟨RX8, TX8, 8, rfl, rfl, inlX8, (zmem 256 (by decide +kernel) rfl), rfl, by decide⟩
theorem fq_X8_47 : zFq RX8 47 8 5 := ⟨TX8, 8, tyX8, rfl, rfl, inlX8, (zmem 256 (by decide +kernel) rfl), rfl, by decide, tyX8_ok, nmX8, rfl, fun _ => ⟨rfl, rfl⟩, rfl⟩
theorem fl_X8_54 : zFl RX8 54 8 6 := ⟨RX8, TX8, 8, rfl, rfl, inlX8, (zmem 257 (by decide +kernel) rfl), rfl, by decide⟩
theorem fq_X8_54 : zFq RX8 54 8 6 := ⟨TX8, 8, tyX8, rfl, rfl, inlX8, (zmem 257 (by decide +kernel) rfl), rfl, by decide, tyX8_ok, nmX8, rfl, fun _ => ⟨rfl, rfl⟩, rfl⟩
theorem fl_X8_58 : zFl RX8 58 8 7 := ⟨RX8, TX8, 8, rfl, rfl, inlX8, (zmem 258 (by decide +kernel) rfl), rfl, by decide⟩
theorem fq_X8_58 : zFq RX8 58 8 7 := ⟨TX8, 8, tyX8, rfl, rfl, inlX8, (zmem 258 (by decide +kernel) rfl), rfl, by decide, tyX8_ok, nmX8, rfl, fun _ => ⟨rfl, rfl⟩, rfl⟩
theorem fl_X9_7 : zFl RX9 7 9 0 := ⟨RX9, TX9, 24, rfl, rfl, inlX9, (zmem 675 (by decide +kernel) rfl), rfl, by decide⟩
theorem fq_X9_7 : zFq RX9 7 9 0 := ⟨TX9, 24, tyX9, rfl, rfl, inlX9, (zmem 675 (by decide +kernel) rfl), rfl, by decide, tyX9_ok, nmX9, rfl, fun _ => ⟨rfl, rfl⟩, rfl⟩
theorem fl_X9_13 : zFl RX9 13 9 1 := ⟨RX9, TX9, 24, rfl, rfl, inlX9, (zmem 676 (by decide +kernel) rfl), rfl, by decide⟩
theorem fq_X9_13 : zFq RX9 13 9 1 := ⟨TX9, 24, tyX9, rfl, rfl, inlX9, (zmem 676 (by decide +kernel) rfl), rfl, by decide, tyX9_ok, nmX9, rfl, fun _ => ⟨rfl, rfl⟩, rfl⟩
theorem fl_X9_16 : zFl RX9 16 9 2 := ⟨RX9, TX9, 24, rfl, rfl, inlX9, (zmem 677 (by decide +kernel) rfl), rfl, by decide⟩
theorem fq_X9_16 : zFq RX9 16 9 2 := ⟨TX9, 24, tyX9, rfl, rfl, inlX9, (zmem 677 (by decide +kernel) rfl), rfl, by decide, tyX9_ok, nmX9, rfl, fun _ => ⟨rfl, rfl⟩, rfl⟩
theorem fl_X9_19 : zFl RX9 19 9 3 := ⟨RX9, TX9, 24, rfl, rfl, inlX9, (zmem 678 (by decide +kernel) rfl), rfl, by decide⟩
theorem fq_X9_19 : zFq RX9 19 9 3 := ⟨TX9, 24, tyX9, rfl, rfl, inlX9, (zmem 678 (by decide +kernel) rfl), rfl, by decide, tyX9_ok, nmX9, rfl, fun _ => ⟨rfl, rfl⟩, rfl⟩
theorem fl_X9_22 : zFl RX9 22 9 4 := ⟨RX9, TX9, 24, rfl, rfl, inlX9, (zmem 679 (by decide +kernel) rfl), rfl, by decide⟩
theorem fq_X9_22 : zFq RX9 22 9 4 := ⟨TX9, 24, tyX9, rfl, rfl, inlX9, (zmem 679 (by decide +kernel) rfl), rfl, by decide, tyX9_ok, nmX9, rfl, fun _ => ⟨rfl, rfl⟩, rfl⟩
theorem fl_X9_25 : zFl RX9 25 9 5 := ⟨RX9, TX9, 24, rfl, rfl, inlX9, (zmem 680 (by decide +kernel) rfl), rfl, by decide⟩
theorem fq_X9_25 : zFq RX9 25 9 5 := ⟨TX9, 24, tyX9, rfl, rfl, inlX9, (zmem 680 (by decide +kernel) rfl), rfl, by decide, tyX9_ok, nmX9, rfl, fun _ => ⟨rfl, rfl⟩, rfl⟩
theorem fl_X9_28 : zFl RX9 28 9 6 := ⟨RX9, TX9, 24, rfl, rfl, inlX9, (zmem 681 (by decide +kernel) rfl), rfl, by decide⟩
theorem fq_X9_28 : zFq RX9 28 9 6 := ⟨TX9, 24, tyX9, rfl, rfl, inlX9, (zmem 681 (by decide +kernel) rfl), rfl, by decide, tyX9_ok, nmX9, rfl, fun _ => ⟨rfl, rfl⟩, rfl⟩
theorem fl_X9_141 : zFl RX9 141 9 7 := ⟨RX9, TX9, 24, rfl, rfl, inlX9, (zmem 682 (by decide +kernel) rfl), rfl, by decide⟩
theorem fp_X9_141 : zFp RX9 141 9 7 := ⟨RX9, TX9, 24, tyX9, rfl, rfl, inlX9, (zmem 682 (by decide +kernel) rfl), rfl, by decide, tyX9_ok, nmX9, rfl, rfl, rfl⟩
theorem fl_X9_31 : zFl RX9 31 9 8 := ⟨RX9, TX9, 24, rfl, rfl, inlX9, (zmem 683 (by decide +kernel) rfl), rfl, by decide⟩
theorem fq_X9_31 : zFq RX9 31 9 8 := ⟨TX9, 24, tyX9, rfl, rfl, inlX9, (zmem 683 (by decide +kernel) rfl), rfl, by decide, tyX9_ok, nmX9, rfl, fun _ => ⟨rfl, rfl⟩, rfl⟩
theorem fl_X9_75 : zFl RX9 75 9 9 := ⟨RX9, TX9, 24, rfl, rfl, inlX9, (zmem 684 (by decide +kernel) rfl), rfl, by decide⟩
theorem fp_X9_75 : zFp RX9 75 9 9 := ⟨RX9, TX9, 24, tyX9, rfl, rfl, inlX9, (zmem 684 (by decide +kernel) rfl), rfl, by decide, tyX9_ok, nmX9, rfl, rfl, rfl⟩
theorem fl_X9_34 : zFl RX9 34 9 10 := ⟨RX9, TX9, 24, rfl, rfl, inlX9, (zmem 685 (by decide +kernel) rfl), rfl, by decide⟩
theorem fq_X9_34 : zFq RX9 34 9 10 := ⟨TX9, 24, tyX9, rfl, rfl, inlX9, (zmem 685 (by decide +kernel) rfl), rfl, by decide, tyX9_ok, nmX9, rfl, fun _ => ⟨rfl, rfl⟩, rfl⟩
theorem fl_X9_83 : zFl RX9 83 9 11 := ⟨RX9, TX9, 24, rfl, rfl, inlX9, (zmem 686 (by decide +kernel) rfl), rfl, by decide⟩
theorem fp_X9_83 : zFp RX9 83 9 11 := ⟨RX9, TX9, 24, tyX9, rfl, rfl, inlX9, (zmem 686 (by decide +kernel) rfl), rfl, by decide, tyX9_ok, nmX9, rfl, rfl, rfl⟩
theorem fl_X9_86 : zFl RX9 86 9 12 := ⟨RX9, TX9, 24, rfl, rfl, inlX9, (zmem 687 (by decide +kernel) rfl), rfl, by decide⟩
theorem fp_X9_86 : zFp RX9 86 9 12 := ⟨RX9, TX9, 24, tyX9, rfl, rfl, inlX9, (zmem 687 (by decide +kernel) rfl), rfl, by decide, tyX9_ok, nmX9, rfl, rfl, rfl⟩
theorem fl_X9_89 : zFl RX9 89 9 13 := ⟨RX9, TX9, 24, rfl, rfl, inlX9, (zmem 688 (by decide +kernel) rfl), rfl, by decide⟩
theorem fp_X9_89 : zFp RX9 89 9 13 := ⟨RX9, TX9, 24, tyX9, rfl, rfl, inlX9, (zmem 688 (by decide +kernel) rfl), rfl, by decide, tyX9_ok, nmX9, rfl, rfl, rfl⟩
theorem fl_X9_116 : zFl RX9 116 9 14 := ⟨RX9, TX9, 24, rfl, rfl, inlX9, (zmem 689 (by decide +kernel) rfl), rfl, by decide⟩
theorem fp_X9_116 : zFp RX9 116 9 14 := ⟨RX9, TX9, 24, tyX9, rfl, rfl, inlX9, (zmem 689 (by decide +kernel) rfl), rfl, by decide, tyX9_ok, nmX9, rfl, rfl, rfl⟩
theorem fl_X9_109 : zFl RX9 109 9 15 := ⟨RX9, TX9, 24, rfl, rfl, inlX9, (zmem 690 (by decide +kernel) rfl), rfl, by decide⟩
theorem fp_X9_109 : zFp RX9 109 9 15 := ⟨RX9, TX9, 24, tyX9, rfl, rfl, inlX9, (zmem 690 (by decide +kernel) rfl), rfl, by decide, tyX9_ok, nmX9, rfl, rfl, rfl⟩
theorem fl_X9_37 : zFl RX9 37 9 16 := ⟨RX9, TX9, 24, rfl, rfl, inlX9, (zmem 691 (by decide +kernel) rfl), rfl, by decide⟩
theorem fq_X9_37 : zFq RX9 37 9 16 := ⟨TX9, 24, tyX9, rfl, rfl, inlX9, (zmem 691 (by decide +kernel) rfl), rfl, by decide, tyX9_ok, nmX9, rfl, fun _ => ⟨rfl, rfl⟩, rfl⟩
theorem fl_X9_40 : zFl RX9 40 9 17 := ⟨RX9, TX9, 24, rfl, rfl, inlX9, (zmem 692 (by decide +kernel) rfl), rfl, by decide⟩
theorem fq_X9_40 : zFq RX9 40 9 17 := ⟨TX9, 24, tyX9, rfl, rfl, inlX9, (zmem 692 (by decide +kernel) rfl), rfl, by decide, tyX9_ok, nmX9, rfl, fun _ => ⟨rfl, rfl⟩, rfl⟩
theorem fl_X9_43 : zFl RX9 43 9 18 := ⟨RX9, TX9, 24, rfl, rfl, inlX9, (zmem 693 (by decide +kernel) rfl), rfl, by decide⟩
theorem fq_X9_43 : zFq RX9 43 9 18 := ⟨TX9, 24, tyX9, rfl, rfl, inlX9, (zmem 693 (by decide +kernel) rfl), rfl, by decide, tyX9_ok, nmX9, rfl, fun _ => ⟨rfl, rfl⟩, rfl⟩
theorem fl_X9_46 : zFl RX9 46 9 19 := ⟨RX9, TX9, 24, rfl, rfl, inlX9, (zmem 694 (by decide +kernel) rfl), rfl, by decide⟩
theorem fq_X9_46 : zFq RX9 46 9 19 := ⟨TX9, 24, tyX9, rfl, rfl, inlX9, (zmem 694 (by decide +kernel) rfl), rfl, by decide, tyX9_ok, nmX9, rfl, fun _ => ⟨rfl, rfl⟩, rfl⟩
theorem fl_X9_49 : zFl RX9 49 9 20 := ⟨RX9, TX9, 24, rfl, rfl, inlX9, (zmem 695 (by decide +kernel) rfl), rfl, by decide⟩
theorem fq_X9_49 : zFq RX9 49 9 20 := ⟨TX9, 24, tyX9, rfl, rfl, inlX9, (zmem 695 (by decide +kernel) rfl), rfl, by decide, tyX9_ok, nmX9, rfl, fun _ => ⟨rfl, rfl⟩, rfl⟩
theorem fl_X9_52 : zFl RX9 52 9 21 := ⟨RX9, TX9, 24, rfl, rfl, inlX9, (zmem 696 (by decide +kernel) rfl), rfl, by decide⟩
theorem fq_X9_52 : zFq RX9 52 9 21 := ⟨TX9, 24, tyX9, rfl, rfl, inlX9, (zmem 696 (by decide +kernel) rfl), rfl, by decide, tyX9_ok, nmX9, rfl, fun _ => ⟨rfl, rfl⟩, rfl⟩
theorem fl_X9_56 : zFl RX9 56 9 22 := ⟨RX9, TX9, 24, rfl, rfl, inlX9, (zmem 697 (by decide +kernel) rfl), rfl, by decide⟩
theorem fq_X9_56 : zFq RX9 56 9 22 := ⟨TX9, 24, tyX9, rfl, rfl, inlX9, (zmem 697 (by decide +kernel) rfl), rfl, by decide, tyX9_ok, nmX9, rfl, fun _ => ⟨rfl, rfl⟩, rfl⟩
theorem fl_X9_59 : zFl RX9 59 9 23 := ⟨RX9, TX9, 24, rfl, rfl, inlX9, (zmem 698 (by decide +kernel) rfl), rfl, by decide⟩
theorem fq_X9_59 : zFq RX9 59 9 23 := ⟨TX9, 24, tyX9, rfl, rfl, inlX9, (zmem 698 (by decide +kernel) rfl), rfl, by decide, tyX9_ok, nmX9, rfl, fun _ => ⟨rfl, rfl⟩, rfl⟩
theorem cl_L_7 : Cond.classLink RL 7 RX8 ∈ wsL_law := zmem 47 (by decide +kernel) rfl
theorem nw_L_7 : zNw RL 7 8 := ⟨RX8, TX8, 8, tyX8, rfl, rfl, inlX8, tyX8_ok, cl_L_7, zmem 48 (by decide +kernel) rfl, zmem 34 (by decide +kernel) rfl, by decide +kernel⟩
theorem cl_X8_7 : Cond.classLink RX8 7 RX3 ∈ wsL_law := zmem 55 (by decide +kernel) rfl
theorem nw_X8_7 : zNw RX8 7 3 := ⟨RX3, TX3, 13, tyX3, rfl, rfl, inlX3, tyX3_ok, cl_X8_7, zmem 56 (by decide +kernel) rfl, zmem 35 (by decide +kernel) rfl, by decide +kernel⟩
theorem cl_X8_16 : Cond.classLink RX8 16 RX5 ∈ wsL_law := zmem 118 (by decide +kernel) rfl
theorem nw_X8_16 : zNw RX8 16 5 := ⟨RX5, TX5, 2, tyX5, rfl, rfl, inlX5, tyX5_ok, cl_X8_16, zmem 119 (by decide +kernel) rfl, zmem 36 (by decide +kernel) rfl, by decide +kernel⟩
theorem cl_X8_23 : Cond.classLink RX8 23 RX1 ∈ wsL_law := zmem 133 (by decide +kernel) rfl
theorem nw_X8_23 : zNw RX8 23 1 := ⟨RX1, TX1, 7, tyX1, rfl, rfl, inlX1, tyX1_ok, cl_X8_23, zmem 134 (by decide +kernel) rfl, zmem 37 (by decide +kernel) rfl, by decide +kernel⟩
theorem cl_X1_9 : Cond.classLink RX1 9 RX3 ∈ wsL_law := zmem 139 (by decide +kernel) rfl
theorem nw_X1_9 : zNw RX1 9 3 := ⟨RX3, TX3, 13, tyX3, rfl, rfl, inlX3, tyX3_ok, cl_X1_9, zmem 56 (by decide +kernel) rfl, zmem 35 (by decide +kernel) rfl, by decide +kernel⟩
theorem cl_X1_18 : Cond.classLink RX1 18 RX0 ∈ wsL_law := zmem 141 (by decide +kernel) rfl
theorem nw_X1_18 : zNw RX1 18 0 := ⟨RX0, TX0, 3, tyX0, rfl, rfl, inlX0, tyX0_ok, cl_X1_18, zmem 142 (by decide +kernel) rfl, zmem 38 (by decide +kernel) rfl, by decide +kernel⟩
theorem cl_X8_30 : Cond.classLink RX8 30 RX6 ∈ wsL_law := zmem 190 (by decide +kernel) rfl
theorem nw_X8_30 : zNw RX8 30 6 := ⟨RX6, TX6, 1, tyX6, rfl, rfl, inlX6, tyX6_ok, cl_X8_30, zmem 191 (by decide +kernel) rfl, zmem 39 (by decide +kernel) rfl, by decide +kernel⟩
theorem cl_X8_37 : Cond.classLink RX8 37 RX4 ∈ wsL_law := zmem 200 (by decide +kernel) rfl
theorem nw_X8_37 : zNw RX8 37 4 := ⟨RX4, TX4, 4, tyX4, rfl, rfl, inlX4, tyX4_ok, cl_X8_37, zmem 201 (by decide +kernel) rfl, zmem 40 (by decide +kernel) rfl, by decide +kernel⟩
theorem cl_X4_9 : Cond.classLink RX4 9 RX6 ∈ wsL_law := zmem 206 (by decide +kernel) rfl
theorem nw_X4_9 : zNw RX4 9 6 := ⟨RX6, TX6, 1, tyX6, rfl, rfl, inlX6, tyX6_ok, cl_X4_9, zmem 191 (by decide +kernel) rfl, zmem 39 (by decide +kernel) rfl, by decide +kernel⟩
theorem cl_X8_44 : Cond.classLink RX8 44 RX7 ∈ wsL_law := zmem 221 (by decide +kernel) rfl
theorem nw_X8_44 : zNw RX8 44 7 := ⟨RX7, TX7, 2, tyX7, rfl, rfl, inlX7, tyX7_ok, cl_X8_44, zmem 222 (by decide +kernel) rfl, zmem 41 (by decide +kernel) rfl, by decide +kernel⟩
theorem cl_X8_51 : Cond.classLink RX8 51 RX2 ∈ wsL_law := zmem 235 (by decide +kernel) rfl
theorem nw_X8_51 : zNw RX8 51 2 := ⟨RX2, TX2, 2, tyX2, rfl, rfl, inlX2, tyX2_ok, cl_X8_51, zmem 236 (by decide +kernel) rfl, zmem 42 (by decide +kernel) rfl, by decide +kernel⟩
theorem cl_L_10 : Cond.classLink RL 10 RX9 ∈ wsL_law := zmem 669 (by decide +kernel) rfl
theorem nw_L_10 : zNw RL 10 9 := ⟨RX9, TX9, 24, tyX9, rfl, rfl, inlX9, tyX9_ok, cl_L_10, zmem 670 (by decide +kernel) rfl, zmem 43 (by decide +kernel) rfl, by decide +kernel⟩
theorem cn_J6_265 : Cond.constant RJ6 265 (1431655765) ∈ wsL_law := zmem 293 (by decide +kernel) rfl
theorem cn_J6_266 : Cond.constant RJ6 266 (858993459) ∈ wsL_law := zmem 294 (by decide +kernel) rfl
theorem cn_J6_267 : Cond.constant RJ6 267 (252645135) ∈ wsL_law := zmem 295 (by decide +kernel) rfl
theorem cn_X6_32 : Cond.constant RX6 32 (1000000000) ∈ wsL_law := zmem 484 (by decide +kernel) rfl
theorem cn_X4_46 : Cond.constant RX4 46 (1000000000) ∈ wsL_law := zmem 505 (by decide +kernel) rfl
theorem cn_X1_74 : Cond.constant RX1 74 (65537) ∈ wsL_law := zmem 647 (by decide +kernel) rfl
theorem cn_X9_137 : Cond.constant RX9 137 (1000000) ∈ wsL_law := zmem 870 (by decide +kernel) rfl
theorem cn_X9_154 : Cond.constant RX9 154 (65537) ∈ wsL_law := zmem 921 (by decide +kernel) rfl
theorem cn_X8_240 : Cond.constantLong RX8 240 (-1000000000000000002) ∈ wsL_law := zmem 629 (by decide +kernel) rfl
theorem cn_X8_250 : Cond.constantLong RX8 250 (10) ∈ wsL_law := zmem 636 (by decide +kernel) rfl
theorem cn_X8_252 : Cond.constantLong RX8 252 (2) ∈ wsL_law := zmem 637 (by decide +kernel) rfl
theorem cn_X8_254 : Cond.constantLong RX8 254 (5) ∈ wsL_law := zmem 638 (by decide +kernel) rfl
theorem cn_X9_150 : Cond.constantLong RX9 150 (-1000000000000000002) ∈ wsL_law := zmem 915 (by decide +kernel) rfl
theorem cn_X9_152 : Cond.constantLong RX9 152 (10) ∈ wsL_law := zmem 916 (by decide +kernel) rfl
theorem mt_X0_init : zMt yX0_init mX0_init 0 := ⟨zmem 145 (by decide +kernel) rfl, zmem 38 (by decide +kernel) rfl, by decide +kernel, by decide +kernel⟩
theorem im_X0_init : Cond.instanceMethod yX0_init ∈ wsL_law := zmem 144 (by decide +kernel) rfl
theorem mt_X0_become : zMt yX0_become mX0_become 3 := ⟨zmem 397 (by decide +kernel) rfl, zmem 38 (by decide +kernel) rfl, by decide +kernel, by decide +kernel⟩
theorem im_X0_become : Cond.instanceMethod yX0_become ∈ wsL_law := zmem 395 (by decide +kernel) rfl
theorem mv_X0_become : zMv yX0_become := ⟨im_X0_become, zmem 396 (by decide +kernel) rfl⟩
theorem mt_X1_init : zMt yX1_init mX1_init 0 := ⟨zmem 137 (by decide +kernel) rfl, zmem 37 (by decide +kernel) rfl, by decide +kernel, by decide +kernel⟩
theorem im_X1_init : Cond.instanceMethod yX1_init ∈ wsL_law := zmem 136 (by decide +kernel) rfl
theorem mt_X1_run : zMt yX1_run mX1_run 2 := ⟨zmem 372 (by decide +kernel) rfl, zmem 37 (by decide +kernel) rfl, by decide +kernel, by decide +kernel⟩
theorem im_X1_run : Cond.instanceMethod yX1_run ∈ wsL_law := zmem 370 (by decide +kernel) rfl
theorem mv_X1_run : zMv yX1_run := ⟨im_X1_run, zmem 371 (by decide +kernel) rfl⟩
theorem mt_X1_begin : zMt yX1_begin mX1_begin 1 := ⟨zmem 376 (by decide +kernel) rfl, zmem 37 (by decide +kernel) rfl, by decide +kernel, by decide +kernel⟩
theorem im_X1_begin : Cond.instanceMethod yX1_begin ∈ wsL_law := zmem 375 (by decide +kernel) rfl
theorem mv_X1_begin : zMv yX1_begin := ⟨im_X1_begin, zmem 1 (by decide +kernel) rfl⟩
theorem mt_X1_noteDown : zMt yX1_noteDown mX1_noteDown 0 := ⟨zmem 438 (by decide +kernel) rfl, zmem 37 (by decide +kernel) rfl, by decide +kernel, by decide +kernel⟩
theorem im_X1_noteDown : Cond.instanceMethod yX1_noteDown ∈ wsL_law := zmem 437 (by decide +kernel) rfl
theorem mv_X1_noteDown : zMv yX1_noteDown := ⟨im_X1_noteDown, zmem 7 (by decide +kernel) rfl⟩
theorem mt_X1_runYear : zMt yX1_runYear mX1_runYear 3 := ⟨zmem 646 (by decide +kernel) rfl, zmem 37 (by decide +kernel) rfl, by decide +kernel, by decide +kernel⟩
theorem im_X1_runYear : Cond.instanceMethod yX1_runYear ∈ wsL_law := zmem 644 (by decide +kernel) rfl
theorem mv_X1_runYear : zMv yX1_runYear := ⟨im_X1_runYear, zmem 645 (by decide +kernel) rfl⟩
theorem mt_X1_draw : zMt yX1_draw mX1_draw 2 := ⟨zmem 651 (by decide +kernel) rfl, zmem 37 (by decide +kernel) rfl, by decide +kernel, by decide +kernel⟩
theorem im_X1_draw : Cond.instanceMethod yX1_draw ∈ wsL_law := zmem 650 (by decide +kernel) rfl
theorem mv_X1_draw : zMv yX1_draw := ⟨im_X1_draw, zmem 15 (by decide +kernel) rfl⟩
theorem mt_X2_init : zMt yX2_init mX2_init 0 := ⟨zmem 239 (by decide +kernel) rfl, zmem 42 (by decide +kernel) rfl, by decide +kernel, by decide +kernel⟩
theorem im_X2_init : Cond.instanceMethod yX2_init ∈ wsL_law := zmem 238 (by decide +kernel) rfl
theorem mt_X2_solve : zMt yX2_solve mX2_solve 1 := ⟨zmem 607 (by decide +kernel) rfl, zmem 42 (by decide +kernel) rfl, by decide +kernel, by decide +kernel⟩
theorem im_X2_solve : Cond.instanceMethod yX2_solve ∈ wsL_law := zmem 605 (by decide +kernel) rfl
theorem mv_X2_solve : zMv yX2_solve := ⟨im_X2_solve, zmem 606 (by decide +kernel) rfl⟩
theorem mt_X2_settle : zMt yX2_settle mX2_settle 3 := ⟨zmem 611 (by decide +kernel) rfl, zmem 42 (by decide +kernel) rfl, by decide +kernel, by decide +kernel⟩
theorem im_X2_settle : Cond.instanceMethod yX2_settle ∈ wsL_law := zmem 610 (by decide +kernel) rfl
theorem mv_X2_settle : zMv yX2_settle := ⟨im_X2_settle, zmem 12 (by decide +kernel) rfl⟩
theorem mt_X2_leastSettled : zMt yX2_leastSettled mX2_leastSettled 3 := ⟨zmem 615 (by decide +kernel) rfl, zmem 42 (by decide +kernel) rfl, by decide +kernel, by decide +kernel⟩
theorem im_X2_leastSettled : Cond.instanceMethod yX2_leastSettled ∈ wsL_law := zmem 614 (by decide +kernel) rfl
theorem mv_X2_leastSettled : zMv yX2_leastSettled := ⟨im_X2_leastSettled, zmem 13 (by decide +kernel) rfl⟩
theorem mt_X2_areAllWon : zMt yX2_areAllWon mX2_areAllWon 2 := ⟨zmem 620 (by decide +kernel) rfl, zmem 42 (by decide +kernel) rfl, by decide +kernel, by decide +kernel⟩
theorem im_X2_areAllWon : Cond.instanceMethod yX2_areAllWon ∈ wsL_law := zmem 619 (by decide +kernel) rfl
theorem mv_X2_areAllWon : zMv yX2_areAllWon := ⟨im_X2_areAllWon, zmem 14 (by decide +kernel) rfl⟩
theorem mt_X2_firstMove : zMt yX2_firstMove mX2_firstMove 2 := ⟨zmem 624 (by decide +kernel) rfl, zmem 42 (by decide +kernel) rfl, by decide +kernel, by decide +kernel⟩
theorem im_X2_firstMove : Cond.instanceMethod yX2_firstMove ∈ wsL_law := zmem 622 (by decide +kernel) rfl
theorem mv_X2_firstMove : zMv yX2_firstMove := ⟨im_X2_firstMove, zmem 623 (by decide +kernel) rfl⟩
theorem mt_X3_init : zMt yX3_init mX3_init 0 := ⟨zmem 59 (by decide +kernel) rfl, zmem 35 (by decide +kernel) rfl, by decide +kernel, by decide +kernel⟩
theorem im_X3_init : Cond.instanceMethod yX3_init ∈ wsL_law := zmem 58 (by decide +kernel) rfl
theorem mt_X3_become : zMt yX3_become mX3_become 1 := ⟨zmem 380 (by decide +kernel) rfl, zmem 35 (by decide +kernel) rfl, by decide +kernel, by decide +kernel⟩
theorem im_X3_become : Cond.instanceMethod yX3_become ∈ wsL_law := zmem 378 (by decide +kernel) rfl
theorem mv_X3_become : zMv yX3_become := ⟨im_X3_become, zmem 379 (by decide +kernel) rfl⟩
theorem mt_X3_isThere : zMt yX3_isThere mX3_isThere 1 := ⟨zmem 409 (by decide +kernel) rfl, zmem 35 (by decide +kernel) rfl, by decide +kernel, by decide +kernel⟩
theorem im_X3_isThere : Cond.instanceMethod yX3_isThere ∈ wsL_law := zmem 407 (by decide +kernel) rfl
theorem mv_X3_isThere : zMv yX3_isThere := ⟨im_X3_isThere, zmem 408 (by decide +kernel) rfl⟩
theorem mt_X3_griefsThere : zMt yX3_griefsThere mX3_griefsThere 0 := ⟨zmem 289 (by decide +kernel) rfl, zmem 35 (by decide +kernel) rfl, by decide +kernel, by decide +kernel⟩
theorem im_X3_griefsThere : Cond.instanceMethod yX3_griefsThere ∈ wsL_law := zmem 287 (by decide +kernel) rfl
theorem mv_X3_griefsThere : zMv yX3_griefsThere := ⟨im_X3_griefsThere, zmem 288 (by decide +kernel) rfl⟩
theorem mt_X3_griefPart : zMt yX3_griefPart mX3_griefPart 2 := ⟨zmem 457 (by decide +kernel) rfl, zmem 35 (by decide +kernel) rfl, by decide +kernel, by decide +kernel⟩
theorem im_X3_griefPart : Cond.instanceMethod yX3_griefPart ∈ wsL_law := zmem 455 (by decide +kernel) rfl
theorem mv_X3_griefPart : zMv yX3_griefPart := ⟨im_X3_griefPart, zmem 456 (by decide +kernel) rfl⟩
theorem mt_X3_holdAsNumber : zMt yX3_holdAsNumber mX3_holdAsNumber 1 := ⟨zmem 306 (by decide +kernel) rfl, zmem 35 (by decide +kernel) rfl, by decide +kernel, by decide +kernel⟩
theorem im_X3_holdAsNumber : Cond.instanceMethod yX3_holdAsNumber ∈ wsL_law := zmem 304 (by decide +kernel) rfl
theorem mv_X3_holdAsNumber : zMv yX3_holdAsNumber := ⟨im_X3_holdAsNumber, zmem 305 (by decide +kernel) rfl⟩
theorem mt_X3_coatAsNumber : zMt yX3_coatAsNumber mX3_coatAsNumber 1 := ⟨zmem 321 (by decide +kernel) rfl, zmem 35 (by decide +kernel) rfl, by decide +kernel, by decide +kernel⟩
theorem im_X3_coatAsNumber : Cond.instanceMethod yX3_coatAsNumber ∈ wsL_law := zmem 319 (by decide +kernel) rfl
theorem mv_X3_coatAsNumber : zMv yX3_coatAsNumber := ⟨im_X3_coatAsNumber, zmem 320 (by decide +kernel) rfl⟩
theorem mt_X3_countMoves : zMt yX3_countMoves mX3_countMoves 0 := ⟨zmem 332 (by decide +kernel) rfl, zmem 35 (by decide +kernel) rfl, by decide +kernel, by decide +kernel⟩
theorem im_X3_countMoves : Cond.instanceMethod yX3_countMoves ∈ wsL_law := zmem 330 (by decide +kernel) rfl
theorem mv_X3_countMoves : zMv yX3_countMoves := ⟨im_X3_countMoves, zmem 331 (by decide +kernel) rfl⟩
theorem mt_X3_holdsThatFit : zMt yX3_holdsThatFit mX3_holdsThatFit 1 := ⟨zmem 469 (by decide +kernel) rfl, zmem 35 (by decide +kernel) rfl, by decide +kernel, by decide +kernel⟩
theorem im_X3_holdsThatFit : Cond.instanceMethod yX3_holdsThatFit ∈ wsL_law := zmem 467 (by decide +kernel) rfl
theorem mv_X3_holdsThatFit : zMv yX3_holdsThatFit := ⟨im_X3_holdsThatFit, zmem 468 (by decide +kernel) rfl⟩
theorem mt_X3_attempt : zMt yX3_attempt mX3_attempt 1 := ⟨zmem 401 (by decide +kernel) rfl, zmem 35 (by decide +kernel) rfl, by decide +kernel, by decide +kernel⟩
theorem im_X3_attempt : Cond.instanceMethod yX3_attempt ∈ wsL_law := zmem 399 (by decide +kernel) rfl
theorem mv_X3_attempt : zMv yX3_attempt := ⟨im_X3_attempt, zmem 400 (by decide +kernel) rfl⟩
theorem mt_X3_takeHold : zMt yX3_takeHold mX3_takeHold 2 := ⟨zmem 405 (by decide +kernel) rfl, zmem 35 (by decide +kernel) rfl, by decide +kernel, by decide +kernel⟩
theorem im_X3_takeHold : Cond.instanceMethod yX3_takeHold ∈ wsL_law := zmem 404 (by decide +kernel) rfl
theorem mv_X3_takeHold : zMv yX3_takeHold := ⟨im_X3_takeHold, zmem 2 (by decide +kernel) rfl⟩
theorem mt_X3_join : zMt yX3_join mX3_join 2 := ⟨zmem 421 (by decide +kernel) rfl, zmem 35 (by decide +kernel) rfl, by decide +kernel, by decide +kernel⟩
theorem im_X3_join : Cond.instanceMethod yX3_join ∈ wsL_law := zmem 420 (by decide +kernel) rfl
theorem mv_X3_join : zMv yX3_join := ⟨im_X3_join, zmem 3 (by decide +kernel) rfl⟩
theorem mt_X3_sitBy : zMt yX3_sitBy mX3_sitBy 1 := ⟨zmem 426 (by decide +kernel) rfl, zmem 35 (by decide +kernel) rfl, by decide +kernel, by decide +kernel⟩
theorem im_X3_sitBy : Cond.instanceMethod yX3_sitBy ∈ wsL_law := zmem 425 (by decide +kernel) rfl
theorem mv_X3_sitBy : zMv yX3_sitBy := ⟨im_X3_sitBy, zmem 4 (by decide +kernel) rfl⟩
theorem mt_X3_rest : zMt yX3_rest mX3_rest 0 := ⟨zmem 430 (by decide +kernel) rfl, zmem 35 (by decide +kernel) rfl, by decide +kernel, by decide +kernel⟩
theorem im_X3_rest : Cond.instanceMethod yX3_rest ∈ wsL_law := zmem 429 (by decide +kernel) rfl
theorem mv_X3_rest : zMv yX3_rest := ⟨im_X3_rest, zmem 5 (by decide +kernel) rfl⟩
theorem mt_X3_passHour : zMt yX3_passHour mX3_passHour 0 := ⟨zmem 434 (by decide +kernel) rfl, zmem 35 (by decide +kernel) rfl, by decide +kernel, by decide +kernel⟩
theorem im_X3_passHour : Cond.instanceMethod yX3_passHour ∈ wsL_law := zmem 433 (by decide +kernel) rfl
theorem mv_X3_passHour : zMv yX3_passHour := ⟨im_X3_passHour, zmem 6 (by decide +kernel) rfl⟩
theorem mt_X3_strengthOf : zMt yX3_strengthOf mX3_strengthOf 1 := ⟨zmem 514 (by decide +kernel) rfl, zmem 35 (by decide +kernel) rfl, by decide +kernel, by decide +kernel⟩
theorem im_X3_strengthOf : Cond.instanceMethod yX3_strengthOf ∈ wsL_law := zmem 512 (by decide +kernel) rfl
theorem mv_X3_strengthOf : zMv yX3_strengthOf := ⟨im_X3_strengthOf, zmem 513 (by decide +kernel) rfl⟩
theorem mt_X3_marksOf : zMt yX3_marksOf mX3_marksOf 1 := ⟨zmem 537 (by decide +kernel) rfl, zmem 35 (by decide +kernel) rfl, by decide +kernel, by decide +kernel⟩
theorem im_X3_marksOf : Cond.instanceMethod yX3_marksOf ∈ wsL_law := zmem 535 (by decide +kernel) rfl
theorem mv_X3_marksOf : zMv yX3_marksOf := ⟨im_X3_marksOf, zmem 536 (by decide +kernel) rfl⟩
theorem mt_X3_leastSetWith : zMt yX3_leastSetWith mX3_leastSetWith 1 := ⟨zmem 532 (by decide +kernel) rfl, zmem 35 (by decide +kernel) rfl, by decide +kernel, by decide +kernel⟩
theorem im_X3_leastSetWith : Cond.instanceMethod yX3_leastSetWith ∈ wsL_law := zmem 530 (by decide +kernel) rfl
theorem mv_X3_leastSetWith : zMv yX3_leastSetWith := ⟨im_X3_leastSetWith, zmem 531 (by decide +kernel) rfl⟩
theorem mt_X3_hoursOf : zMt yX3_hoursOf mX3_hoursOf 1 := ⟨zmem 554 (by decide +kernel) rfl, zmem 35 (by decide +kernel) rfl, by decide +kernel, by decide +kernel⟩
theorem im_X3_hoursOf : Cond.instanceMethod yX3_hoursOf ∈ wsL_law := zmem 552 (by decide +kernel) rfl
theorem mv_X3_hoursOf : zMv yX3_hoursOf := ⟨im_X3_hoursOf, zmem 553 (by decide +kernel) rfl⟩
theorem mt_X3_fewestCoatsFor : zMt yX3_fewestCoatsFor mX3_fewestCoatsFor 1 := ⟨zmem 550 (by decide +kernel) rfl, zmem 35 (by decide +kernel) rfl, by decide +kernel, by decide +kernel⟩
theorem im_X3_fewestCoatsFor : Cond.instanceMethod yX3_fewestCoatsFor ∈ wsL_law := zmem 548 (by decide +kernel) rfl
theorem mv_X3_fewestCoatsFor : zMv yX3_fewestCoatsFor := ⟨im_X3_fewestCoatsFor, zmem 549 (by decide +kernel) rfl⟩
theorem mt_X3_addSight : zMt yX3_addSight mX3_addSight 2 := ⟨zmem 563 (by decide +kernel) rfl, zmem 35 (by decide +kernel) rfl, by decide +kernel, by decide +kernel⟩
theorem im_X3_addSight : Cond.instanceMethod yX3_addSight ∈ wsL_law := zmem 561 (by decide +kernel) rfl
theorem mv_X3_addSight : zMv yX3_addSight := ⟨im_X3_addSight, zmem 562 (by decide +kernel) rfl⟩
theorem mt_X3_isAsSeen : zMt yX3_isAsSeen mX3_isAsSeen 1 := ⟨zmem 579 (by decide +kernel) rfl, zmem 35 (by decide +kernel) rfl, by decide +kernel, by decide +kernel⟩
theorem im_X3_isAsSeen : Cond.instanceMethod yX3_isAsSeen ∈ wsL_law := zmem 577 (by decide +kernel) rfl
theorem mv_X3_isAsSeen : zMv yX3_isAsSeen := ⟨im_X3_isAsSeen, zmem 578 (by decide +kernel) rfl⟩
theorem mt_X4_init : zMt yX4_init mX4_init 0 := ⟨zmem 204 (by decide +kernel) rfl, zmem 40 (by decide +kernel) rfl, by decide +kernel, by decide +kernel⟩
theorem im_X4_init : Cond.instanceMethod yX4_init ∈ wsL_law := zmem 203 (by decide +kernel) rfl
theorem mt_X4_work : zMt yX4_work mX4_work 1 := ⟨zmem 497 (by decide +kernel) rfl, zmem 40 (by decide +kernel) rfl, by decide +kernel, by decide +kernel⟩
theorem im_X4_work : Cond.instanceMethod yX4_work ∈ wsL_law := zmem 495 (by decide +kernel) rfl
theorem mv_X4_work : zMv yX4_work := ⟨im_X4_work, zmem 496 (by decide +kernel) rfl⟩
theorem mt_X4_leastOf : zMt yX4_leastOf mX4_leastOf 2 := ⟨zmem 504 (by decide +kernel) rfl, zmem 40 (by decide +kernel) rfl, by decide +kernel, by decide +kernel⟩
theorem im_X4_leastOf : Cond.instanceMethod yX4_leastOf ∈ wsL_law := zmem 503 (by decide +kernel) rfl
theorem mv_X4_leastOf : zMv yX4_leastOf := ⟨im_X4_leastOf, zmem 10 (by decide +kernel) rfl⟩
theorem mt_X4_borneIfFirst : zMt yX4_borneIfFirst mX4_borneIfFirst 3 := ⟨zmem 510 (by decide +kernel) rfl, zmem 40 (by decide +kernel) rfl, by decide +kernel, by decide +kernel⟩
theorem im_X4_borneIfFirst : Cond.instanceMethod yX4_borneIfFirst ∈ wsL_law := zmem 509 (by decide +kernel) rfl
theorem mv_X4_borneIfFirst : zMv yX4_borneIfFirst := ⟨im_X4_borneIfFirst, zmem 11 (by decide +kernel) rfl⟩
theorem mt_X4_leastBorne : zMt yX4_leastBorne mX4_leastBorne 0 := ⟨zmem 520 (by decide +kernel) rfl, zmem 40 (by decide +kernel) rfl, by decide +kernel, by decide +kernel⟩
theorem im_X4_leastBorne : Cond.instanceMethod yX4_leastBorne ∈ wsL_law := zmem 518 (by decide +kernel) rfl
theorem mv_X4_leastBorne : zMv yX4_leastBorne := ⟨im_X4_leastBorne, zmem 519 (by decide +kernel) rfl⟩
theorem mt_X4_firstTaken : zMt yX4_firstTaken mX4_firstTaken 1 := ⟨zmem 524 (by decide +kernel) rfl, zmem 40 (by decide +kernel) rfl, by decide +kernel, by decide +kernel⟩
theorem im_X4_firstTaken : Cond.instanceMethod yX4_firstTaken ∈ wsL_law := zmem 522 (by decide +kernel) rfl
theorem mv_X4_firstTaken : zMv yX4_firstTaken := ⟨im_X4_firstTaken, zmem 523 (by decide +kernel) rfl⟩
theorem mt_X5_init : zMt yX5_init mX5_init 0 := ⟨zmem 122 (by decide +kernel) rfl, zmem 36 (by decide +kernel) rfl, by decide +kernel, by decide +kernel⟩
theorem im_X5_init : Cond.instanceMethod yX5_init ∈ wsL_law := zmem 121 (by decide +kernel) rfl
theorem mt_X5_write : zMt yX5_write mX5_write 1 := ⟨zmem 341 (by decide +kernel) rfl, zmem 36 (by decide +kernel) rfl, by decide +kernel, by decide +kernel⟩
theorem im_X5_write : Cond.instanceMethod yX5_write ∈ wsL_law := zmem 339 (by decide +kernel) rfl
theorem mv_X5_write : zMv yX5_write := ⟨im_X5_write, zmem 340 (by decide +kernel) rfl⟩
theorem mt_X5_findFault : zMt yX5_findFault mX5_findFault 0 := ⟨zmem 353 (by decide +kernel) rfl, zmem 36 (by decide +kernel) rfl, by decide +kernel, by decide +kernel⟩
theorem im_X5_findFault : Cond.instanceMethod yX5_findFault ∈ wsL_law := zmem 351 (by decide +kernel) rfl
theorem mv_X5_findFault : zMv yX5_findFault := ⟨im_X5_findFault, zmem 352 (by decide +kernel) rfl⟩
theorem mt_X5_awaitedAfter : zMt yX5_awaitedAfter mX5_awaitedAfter 2 := ⟨zmem 361 (by decide +kernel) rfl, zmem 36 (by decide +kernel) rfl, by decide +kernel, by decide +kernel⟩
theorem st_X5_awaitedAfter : Cond.static yX5_awaitedAfter ∈ wsL_law := zmem 360 (by decide +kernel) rfl
theorem mt_X5_read : zMt yX5_read mX5_read 2 := ⟨zmem 393 (by decide +kernel) rfl, zmem 36 (by decide +kernel) rfl, by decide +kernel, by decide +kernel⟩
theorem im_X5_read : Cond.instanceMethod yX5_read ∈ wsL_law := zmem 391 (by decide +kernel) rfl
theorem mv_X5_read : zMv yX5_read := ⟨im_X5_read, zmem 392 (by decide +kernel) rfl⟩
theorem mt_X5_signAt : zMt yX5_signAt mX5_signAt 1 := ⟨zmem 357 (by decide +kernel) rfl, zmem 36 (by decide +kernel) rfl, by decide +kernel, by decide +kernel⟩
theorem im_X5_signAt : Cond.instanceMethod yX5_signAt ∈ wsL_law := zmem 356 (by decide +kernel) rfl
theorem mv_X5_signAt : zMv yX5_signAt := ⟨im_X5_signAt, zmem 0 (by decide +kernel) rfl⟩
theorem mt_X5_isLetter : zMt yX5_isLetter mX5_isLetter 1 := ⟨zmem 364 (by decide +kernel) rfl, zmem 36 (by decide +kernel) rfl, by decide +kernel, by decide +kernel⟩
theorem st_X5_isLetter : Cond.static yX5_isLetter ∈ wsL_law := zmem 363 (by decide +kernel) rfl
theorem mt_X6_init : zMt yX6_init mX6_init 0 := ⟨zmem 194 (by decide +kernel) rfl, zmem 39 (by decide +kernel) rfl, by decide +kernel, by decide +kernel⟩
theorem im_X6_init : Cond.instanceMethod yX6_init ∈ wsL_law := zmem 193 (by decide +kernel) rfl
theorem mt_X6_priceOf : zMt yX6_priceOf mX6_priceOf 2 := ⟨zmem 477 (by decide +kernel) rfl, zmem 39 (by decide +kernel) rfl, by decide +kernel, by decide +kernel⟩
theorem im_X6_priceOf : Cond.instanceMethod yX6_priceOf ∈ wsL_law := zmem 475 (by decide +kernel) rfl
theorem mv_X6_priceOf : zMv yX6_priceOf := ⟨im_X6_priceOf, zmem 476 (by decide +kernel) rfl⟩
theorem mt_X6_cheapest : zMt yX6_cheapest mX6_cheapest 3 := ⟨zmem 483 (by decide +kernel) rfl, zmem 39 (by decide +kernel) rfl, by decide +kernel, by decide +kernel⟩
theorem im_X6_cheapest : Cond.instanceMethod yX6_cheapest ∈ wsL_law := zmem 482 (by decide +kernel) rfl
theorem mv_X6_cheapest : zMv yX6_cheapest := ⟨im_X6_cheapest, zmem 9 (by decide +kernel) rfl⟩
theorem mt_X7_init : zMt yX7_init mX7_init 0 := ⟨zmem 225 (by decide +kernel) rfl, zmem 41 (by decide +kernel) rfl, by decide +kernel, by decide +kernel⟩
theorem im_X7_init : Cond.instanceMethod yX7_init ∈ wsL_law := zmem 224 (by decide +kernel) rfl
theorem mt_X7_find : zMt yX7_find mX7_find 1 := ⟨zmem 575 (by decide +kernel) rfl, zmem 41 (by decide +kernel) rfl, by decide +kernel, by decide +kernel⟩
theorem im_X7_find : Cond.instanceMethod yX7_find ∈ wsL_law := zmem 573 (by decide +kernel) rfl
theorem mv_X7_find : zMv yX7_find := ⟨im_X7_find, zmem 574 (by decide +kernel) rfl⟩
theorem mt_X7_shapeAt : zMt yX7_shapeAt mX7_shapeAt 1 := ⟨zmem 583 (by decide +kernel) rfl, zmem 41 (by decide +kernel) rfl, by decide +kernel, by decide +kernel⟩
theorem im_X7_shapeAt : Cond.instanceMethod yX7_shapeAt ∈ wsL_law := zmem 581 (by decide +kernel) rfl
theorem mv_X7_shapeAt : zMv yX7_shapeAt := ⟨im_X7_shapeAt, zmem 582 (by decide +kernel) rfl⟩
theorem mt_X7_holdToTry : zMt yX7_holdToTry mX7_holdToTry 1 := ⟨zmem 592 (by decide +kernel) rfl, zmem 41 (by decide +kernel) rfl, by decide +kernel, by decide +kernel⟩
theorem im_X7_holdToTry : Cond.instanceMethod yX7_holdToTry ∈ wsL_law := zmem 590 (by decide +kernel) rfl
theorem mv_X7_holdToTry : zMv yX7_holdToTry := ⟨im_X7_holdToTry, zmem 591 (by decide +kernel) rfl⟩
theorem mt_X7_mostLeftBy : zMt yX7_mostLeftBy mX7_mostLeftBy 1 := ⟨zmem 596 (by decide +kernel) rfl, zmem 41 (by decide +kernel) rfl, by decide +kernel, by decide +kernel⟩
theorem im_X7_mostLeftBy : Cond.instanceMethod yX7_mostLeftBy ∈ wsL_law := zmem 594 (by decide +kernel) rfl
theorem mv_X7_mostLeftBy : zMv yX7_mostLeftBy := ⟨im_X7_mostLeftBy, zmem 595 (by decide +kernel) rfl⟩
theorem mt_X8_init : zMt yX8_init mX8_init 0 := ⟨zmem 51 (by decide +kernel) rfl, zmem 34 (by decide +kernel) rfl, by decide +kernel, by decide +kernel⟩
theorem im_X8_init : Cond.instanceMethod yX8_init ∈ wsL_law := zmem 50 (by decide +kernel) rfl
theorem mt_X8_grief : zMt yX8_grief mX8_grief 3 := ⟨zmem 279 (by decide +kernel) rfl, zmem 34 (by decide +kernel) rfl, by decide +kernel, by decide +kernel⟩
theorem im_X8_grief : Cond.instanceMethod yX8_grief ∈ wsL_law := zmem 277 (by decide +kernel) rfl
theorem mv_X8_grief : zMv yX8_grief := ⟨im_X8_grief, zmem 278 (by decide +kernel) rfl⟩
theorem mt_X8_hold : zMt yX8_hold mX8_hold 4 := ⟨zmem 299 (by decide +kernel) rfl, zmem 34 (by decide +kernel) rfl, by decide +kernel, by decide +kernel⟩
theorem im_X8_hold : Cond.instanceMethod yX8_hold ∈ wsL_law := zmem 297 (by decide +kernel) rfl
theorem mv_X8_hold : zMv yX8_hold := ⟨im_X8_hold, zmem 298 (by decide +kernel) rfl⟩
theorem mt_X8_breath : zMt yX8_breath mX8_breath 1 := ⟨zmem 310 (by decide +kernel) rfl, zmem 34 (by decide +kernel) rfl, by decide +kernel, by decide +kernel⟩
theorem im_X8_breath : Cond.instanceMethod yX8_breath ∈ wsL_law := zmem 308 (by decide +kernel) rfl
theorem mv_X8_breath : zMv yX8_breath := ⟨im_X8_breath, zmem 309 (by decide +kernel) rfl⟩
theorem mt_X8_coat : zMt yX8_coat mX8_coat 3 := ⟨zmem 314 (by decide +kernel) rfl, zmem 34 (by decide +kernel) rfl, by decide +kernel, by decide +kernel⟩
theorem im_X8_coat : Cond.instanceMethod yX8_coat ∈ wsL_law := zmem 312 (by decide +kernel) rfl
theorem mv_X8_coat : zMv yX8_coat := ⟨im_X8_coat, zmem 313 (by decide +kernel) rfl⟩
theorem mt_X8_move : zMt yX8_move mX8_move 3 := ⟨zmem 325 (by decide +kernel) rfl, zmem 34 (by decide +kernel) rfl, by decide +kernel, by decide +kernel⟩
theorem im_X8_move : Cond.instanceMethod yX8_move ∈ wsL_law := zmem 323 (by decide +kernel) rfl
theorem mv_X8_move : zMv yX8_move := ⟨im_X8_move, zmem 324 (by decide +kernel) rfl⟩
theorem mt_X8_say : zMt yX8_say mX8_say 1 := ⟨zmem 337 (by decide +kernel) rfl, zmem 34 (by decide +kernel) rfl, by decide +kernel, by decide +kernel⟩
theorem im_X8_say : Cond.instanceMethod yX8_say ∈ wsL_law := zmem 335 (by decide +kernel) rfl
theorem mv_X8_say : zMv yX8_say := ⟨im_X8_say, zmem 336 (by decide +kernel) rfl⟩
theorem mt_X8_wipe : zMt yX8_wipe mX8_wipe 0 := ⟨zmem 345 (by decide +kernel) rfl, zmem 34 (by decide +kernel) rfl, by decide +kernel, by decide +kernel⟩
theorem im_X8_wipe : Cond.instanceMethod yX8_wipe ∈ wsL_law := zmem 343 (by decide +kernel) rfl
theorem mv_X8_wipe : zMv yX8_wipe := ⟨im_X8_wipe, zmem 344 (by decide +kernel) rfl⟩
theorem mt_X8_fault : zMt yX8_fault mX8_fault 0 := ⟨zmem 349 (by decide +kernel) rfl, zmem 34 (by decide +kernel) rfl, by decide +kernel, by decide +kernel⟩
theorem im_X8_fault : Cond.instanceMethod yX8_fault ∈ wsL_law := zmem 347 (by decide +kernel) rfl
theorem mv_X8_fault : zMv yX8_fault := ⟨im_X8_fault, zmem 348 (by decide +kernel) rfl⟩
theorem mt_X8_judge : zMt yX8_judge mX8_judge 1 := ⟨zmem 368 (by decide +kernel) rfl, zmem 34 (by decide +kernel) rfl, by decide +kernel, by decide +kernel⟩
theorem im_X8_judge : Cond.instanceMethod yX8_judge ∈ wsL_law := zmem 366 (by decide +kernel) rfl
theorem mv_X8_judge : zMv yX8_judge := ⟨im_X8_judge, zmem 367 (by decide +kernel) rfl⟩
theorem mt_X8_done : zMt yX8_done mX8_done 0 := ⟨zmem 443 (by decide +kernel) rfl, zmem 34 (by decide +kernel) rfl, by decide +kernel, by decide +kernel⟩
theorem im_X8_done : Cond.instanceMethod yX8_done ∈ wsL_law := zmem 441 (by decide +kernel) rfl
theorem mv_X8_done : zMv yX8_done := ⟨im_X8_done, zmem 442 (by decide +kernel) rfl⟩
theorem mt_X8_behind : zMt yX8_behind mX8_behind 2 := ⟨zmem 452 (by decide +kernel) rfl, zmem 34 (by decide +kernel) rfl, by decide +kernel, by decide +kernel⟩
theorem im_X8_behind : Cond.instanceMethod yX8_behind ∈ wsL_law := zmem 450 (by decide +kernel) rfl
theorem mv_X8_behind : zMv yX8_behind := ⟨im_X8_behind, zmem 451 (by decide +kernel) rfl⟩
theorem mt_X8_then : zMt yX8_then mX8_then 1 := ⟨zmem 461 (by decide +kernel) rfl, zmem 34 (by decide +kernel) rfl, by decide +kernel, by decide +kernel⟩
theorem im_X8_then : Cond.instanceMethod yX8_then ∈ wsL_law := zmem 459 (by decide +kernel) rfl
theorem mv_X8_then : zMv yX8_then := ⟨im_X8_then, zmem 460 (by decide +kernel) rfl⟩
theorem mt_X8_fitting : zMt yX8_fitting mX8_fitting 1 := ⟨zmem 465 (by decide +kernel) rfl, zmem 34 (by decide +kernel) rfl, by decide +kernel, by decide +kernel⟩
theorem im_X8_fitting : Cond.instanceMethod yX8_fitting ∈ wsL_law := zmem 463 (by decide +kernel) rfl
theorem mv_X8_fitting : zMv yX8_fitting := ⟨im_X8_fitting, zmem 464 (by decide +kernel) rfl⟩
theorem mt_X8_least : zMt yX8_least mX8_least 2 := ⟨zmem 473 (by decide +kernel) rfl, zmem 34 (by decide +kernel) rfl, by decide +kernel, by decide +kernel⟩
theorem im_X8_least : Cond.instanceMethod yX8_least ∈ wsL_law := zmem 471 (by decide +kernel) rfl
theorem mv_X8_least : zMv yX8_least := ⟨im_X8_least, zmem 472 (by decide +kernel) rfl⟩
theorem mt_X8_order : zMt yX8_order mX8_order 1 := ⟨zmem 493 (by decide +kernel) rfl, zmem 34 (by decide +kernel) rfl, by decide +kernel, by decide +kernel⟩
theorem im_X8_order : Cond.instanceMethod yX8_order ∈ wsL_law := zmem 491 (by decide +kernel) rfl
theorem mv_X8_order : zMv yX8_order := ⟨im_X8_order, zmem 492 (by decide +kernel) rfl⟩
theorem mt_X8_make : zMt yX8_make mX8_make 2 := ⟨zmem 528 (by decide +kernel) rfl, zmem 34 (by decide +kernel) rfl, by decide +kernel, by decide +kernel⟩
theorem im_X8_make : Cond.instanceMethod yX8_make ∈ wsL_law := zmem 526 (by decide +kernel) rfl
theorem mv_X8_make : zMv yX8_make := ⟨im_X8_make, zmem 527 (by decide +kernel) rfl⟩
theorem mt_X8_ring : zMt yX8_ring mX8_ring 3 := ⟨zmem 543 (by decide +kernel) rfl, zmem 34 (by decide +kernel) rfl, by decide +kernel, by decide +kernel⟩
theorem im_X8_ring : Cond.instanceMethod yX8_ring ∈ wsL_law := zmem 541 (by decide +kernel) rfl
theorem mv_X8_ring : zMv yX8_ring := ⟨im_X8_ring, zmem 542 (by decide +kernel) rfl⟩
theorem mt_X8_seen : zMt yX8_seen mX8_seen 2 := ⟨zmem 559 (by decide +kernel) rfl, zmem 34 (by decide +kernel) rfl, by decide +kernel, by decide +kernel⟩
theorem im_X8_seen : Cond.instanceMethod yX8_seen ∈ wsL_law := zmem 557 (by decide +kernel) rfl
theorem mv_X8_seen : zMv yX8_seen := ⟨im_X8_seen, zmem 558 (by decide +kernel) rfl⟩
theorem mt_X8_forget : zMt yX8_forget mX8_forget 0 := ⟨zmem 567 (by decide +kernel) rfl, zmem 34 (by decide +kernel) rfl, by decide +kernel, by decide +kernel⟩
theorem im_X8_forget : Cond.instanceMethod yX8_forget ∈ wsL_law := zmem 565 (by decide +kernel) rfl
theorem mv_X8_forget : zMv yX8_forget := ⟨im_X8_forget, zmem 566 (by decide +kernel) rfl⟩
theorem mt_X8_shape : zMt yX8_shape mX8_shape 1 := ⟨zmem 571 (by decide +kernel) rfl, zmem 34 (by decide +kernel) rfl, by decide +kernel, by decide +kernel⟩
theorem im_X8_shape : Cond.instanceMethod yX8_shape ∈ wsL_law := zmem 569 (by decide +kernel) rfl
theorem mv_X8_shape : zMv yX8_shape := ⟨im_X8_shape, zmem 570 (by decide +kernel) rfl⟩
theorem mt_X8_ask : zMt yX8_ask mX8_ask 1 := ⟨zmem 588 (by decide +kernel) rfl, zmem 34 (by decide +kernel) rfl, by decide +kernel, by decide +kernel⟩
theorem im_X8_ask : Cond.instanceMethod yX8_ask ∈ wsL_law := zmem 586 (by decide +kernel) rfl
theorem mv_X8_ask : zMv yX8_ask := ⟨im_X8_ask, zmem 587 (by decide +kernel) rfl⟩
theorem mt_X8_play : zMt yX8_play mX8_play 2 := ⟨zmem 603 (by decide +kernel) rfl, zmem 34 (by decide +kernel) rfl, by decide +kernel, by decide +kernel⟩
theorem im_X8_play : Cond.instanceMethod yX8_play ∈ wsL_law := zmem 601 (by decide +kernel) rfl
theorem mv_X8_play : zMv yX8_play := ⟨im_X8_play, zmem 602 (by decide +kernel) rfl⟩
theorem mt_X8_themselves : zMt yX8_themselves mX8_themselves 4 := ⟨zmem 628 (by decide +kernel) rfl, zmem 34 (by decide +kernel) rfl, by decide +kernel, by decide +kernel⟩
theorem im_X8_themselves : Cond.instanceMethod yX8_themselves ∈ wsL_law := zmem 626 (by decide +kernel) rfl
theorem mv_X8_themselves : zMv yX8_themselves := ⟨im_X8_themselves, zmem 627 (by decide +kernel) rfl⟩
theorem mt_X8_year : zMt yX8_year mX8_year 3 := ⟨zmem 642 (by decide +kernel) rfl, zmem 34 (by decide +kernel) rfl, by decide +kernel, by decide +kernel⟩
theorem im_X8_year : Cond.instanceMethod yX8_year ∈ wsL_law := zmem 640 (by decide +kernel) rfl
theorem mv_X8_year : zMv yX8_year := ⟨im_X8_year, zmem 641 (by decide +kernel) rfl⟩
theorem mt_X8_image : zMt yX8_image mX8_image 1 := ⟨zmem 656 (by decide +kernel) rfl, zmem 34 (by decide +kernel) rfl, by decide +kernel, by decide +kernel⟩
theorem im_X8_image : Cond.instanceMethod yX8_image ∈ wsL_law := zmem 654 (by decide +kernel) rfl
theorem mv_X8_image : zMv yX8_image := ⟨im_X8_image, zmem 655 (by decide +kernel) rfl⟩
theorem mt_X8_restore : zMt yX8_restore mX8_restore 1 := ⟨zmem 660 (by decide +kernel) rfl, zmem 34 (by decide +kernel) rfl, by decide +kernel, by decide +kernel⟩
theorem im_X8_restore : Cond.instanceMethod yX8_restore ∈ wsL_law := zmem 658 (by decide +kernel) rfl
theorem mv_X8_restore : zMv yX8_restore := ⟨im_X8_restore, zmem 659 (by decide +kernel) rfl⟩
theorem mt_X8_told : zMt yX8_told mX8_told 1 := ⟨zmem 664 (by decide +kernel) rfl, zmem 34 (by decide +kernel) rfl, by decide +kernel, by decide +kernel⟩
theorem im_X8_told : Cond.instanceMethod yX8_told ∈ wsL_law := zmem 662 (by decide +kernel) rfl
theorem mv_X8_told : zMv yX8_told := ⟨im_X8_told, zmem 663 (by decide +kernel) rfl⟩
theorem mt_X8_toldOfGrief : zMt yX8_toldOfGrief mX8_toldOfGrief 2 := ⟨zmem 668 (by decide +kernel) rfl, zmem 34 (by decide +kernel) rfl, by decide +kernel, by decide +kernel⟩
theorem im_X8_toldOfGrief : Cond.instanceMethod yX8_toldOfGrief ∈ wsL_law := zmem 667 (by decide +kernel) rfl
theorem mv_X8_toldOfGrief : zMv yX8_toldOfGrief := ⟨im_X8_toldOfGrief, zmem 16 (by decide +kernel) rfl⟩
theorem mt_X8_tryDays : zMt yX8_tryDays mX8_tryDays 0 := ⟨zmem 447 (by decide +kernel) rfl, zmem 34 (by decide +kernel) rfl, by decide +kernel, by decide +kernel⟩
theorem im_X8_tryDays : Cond.instanceMethod yX8_tryDays ∈ wsL_law := zmem 446 (by decide +kernel) rfl
theorem mv_X8_tryDays : zMv yX8_tryDays := ⟨im_X8_tryDays, zmem 8 (by decide +kernel) rfl⟩
theorem mt_X8_isFrom : zMt yX8_isFrom mX8_isFrom 3 := ⟨zmem 282 (by decide +kernel) rfl, zmem 34 (by decide +kernel) rfl, by decide +kernel, by decide +kernel⟩
theorem st_X8_isFrom : Cond.static yX8_isFrom ∈ wsL_law := zmem 281 (by decide +kernel) rfl
theorem mt_X8_isHold : zMt yX8_isHold mX8_isHold 1 := ⟨zmem 302 (by decide +kernel) rfl, zmem 34 (by decide +kernel) rfl, by decide +kernel, by decide +kernel⟩
theorem st_X8_isHold : Cond.static yX8_isHold ∈ wsL_law := zmem 301 (by decide +kernel) rfl
theorem mt_X8_isState : zMt yX8_isState mX8_isState 1 := ⟨zmem 328 (by decide +kernel) rfl, zmem 34 (by decide +kernel) rfl, by decide +kernel, by decide +kernel⟩
theorem st_X8_isState : Cond.static yX8_isState ∈ wsL_law := zmem 327 (by decide +kernel) rfl
theorem mt_X8_isSetOfMarks : zMt yX8_isSetOfMarks mX8_isSetOfMarks 1 := ⟨zmem 285 (by decide +kernel) rfl, zmem 34 (by decide +kernel) rfl, by decide +kernel, by decide +kernel⟩
theorem st_X8_isSetOfMarks : Cond.static yX8_isSetOfMarks ∈ wsL_law := zmem 284 (by decide +kernel) rfl
theorem mt_X8_areHours : zMt yX8_areHours mX8_areHours 2 := ⟨zmem 317 (by decide +kernel) rfl, zmem 34 (by decide +kernel) rfl, by decide +kernel, by decide +kernel⟩
theorem st_X8_areHours : Cond.static yX8_areHours ∈ wsL_law := zmem 316 (by decide +kernel) rfl
theorem mt_X8_isIn : zMt yX8_isIn mX8_isIn 2 := ⟨zmem 487 (by decide +kernel) rfl, zmem 34 (by decide +kernel) rfl, by decide +kernel, by decide +kernel⟩
theorem st_X8_isIn : Cond.static yX8_isIn ∈ wsL_law := zmem 486 (by decide +kernel) rfl
theorem mt_X8_isWithin : zMt yX8_isWithin mX8_isWithin 2 := ⟨zmem 414 (by decide +kernel) rfl, zmem 34 (by decide +kernel) rfl, by decide +kernel, by decide +kernel⟩
theorem st_X8_isWithin : Cond.static yX8_isWithin ∈ wsL_law := zmem 413 (by decide +kernel) rfl
theorem mt_X8_hoursFrom : zMt yX8_hoursFrom mX8_hoursFrom 2 := ⟨zmem 546 (by decide +kernel) rfl, zmem 34 (by decide +kernel) rfl, by decide +kernel, by decide +kernel⟩
theorem st_X8_hoursFrom : Cond.static yX8_hoursFrom ∈ wsL_law := zmem 545 (by decide +kernel) rfl
theorem mt_X8_choose : zMt yX8_choose mX8_choose 2 := ⟨zmem 632 (by decide +kernel) rfl, zmem 34 (by decide +kernel) rfl, by decide +kernel, by decide +kernel⟩
theorem st_X8_choose : Cond.static yX8_choose ∈ wsL_law := zmem 631 (by decide +kernel) rfl
theorem mt_X8_power : zMt yX8_power mX8_power 2 := ⟨zmem 635 (by decide +kernel) rfl, zmem 34 (by decide +kernel) rfl, by decide +kernel, by decide +kernel⟩
theorem st_X8_power : Cond.static yX8_power ∈ wsL_law := zmem 634 (by decide +kernel) rfl
theorem mt_X8_copyRow : zMt yX8_copyRow mX8_copyRow 2 := ⟨zmem 383 (by decide +kernel) rfl, zmem 34 (by decide +kernel) rfl, by decide +kernel, by decide +kernel⟩
theorem st_X8_copyRow : Cond.static yX8_copyRow ∈ wsL_law := zmem 382 (by decide +kernel) rfl
theorem mt_X9_init : zMt yX9_init mX9_init 0 := ⟨zmem 673 (by decide +kernel) rfl, zmem 43 (by decide +kernel) rfl, by decide +kernel, by decide +kernel⟩
theorem im_X9_init : Cond.instanceMethod yX9_init ∈ wsL_law := zmem 672 (by decide +kernel) rfl
theorem mt_X9_in : zMt yX9_in mX9_in 3 := ⟨zmem 755 (by decide +kernel) rfl, zmem 43 (by decide +kernel) rfl, by decide +kernel, by decide +kernel⟩
theorem st_X9_in : Cond.static yX9_in ∈ wsL_law := zmem 754 (by decide +kernel) rfl
theorem mt_X9_has : zMt yX9_has mX9_has 2 := ⟨zmem 817 (by decide +kernel) rfl, zmem 43 (by decide +kernel) rfl, by decide +kernel, by decide +kernel⟩
theorem st_X9_has : Cond.static yX9_has ∈ wsL_law := zmem 816 (by decide +kernel) rfl
theorem mt_X9_bits : zMt yX9_bits mX9_bits 1 := ⟨zmem 758 (by decide +kernel) rfl, zmem 43 (by decide +kernel) rfl, by decide +kernel, by decide +kernel⟩
theorem st_X9_bits : Cond.static yX9_bits ∈ wsL_law := zmem 757 (by decide +kernel) rfl
theorem mt_X9_isThere : zMt yX9_isThere mX9_isThere 1 := ⟨zmem 849 (by decide +kernel) rfl, zmem 43 (by decide +kernel) rfl, by decide +kernel, by decide +kernel⟩
theorem im_X9_isThere : Cond.instanceMethod yX9_isThere ∈ wsL_law := zmem 848 (by decide +kernel) rfl
theorem mv_X9_isThere : zMv yX9_isThere := ⟨im_X9_isThere, zmem 28 (by decide +kernel) rfl⟩
theorem mt_X9_grief : zMt yX9_grief mX9_grief 3 := ⟨zmem 752 (by decide +kernel) rfl, zmem 43 (by decide +kernel) rfl, by decide +kernel, by decide +kernel⟩
theorem im_X9_grief : Cond.instanceMethod yX9_grief ∈ wsL_law := zmem 750 (by decide +kernel) rfl
theorem mv_X9_grief : zMv yX9_grief := ⟨im_X9_grief, zmem 751 (by decide +kernel) rfl⟩
theorem mt_X9_hold : zMt yX9_hold mX9_hold 4 := ⟨zmem 762 (by decide +kernel) rfl, zmem 43 (by decide +kernel) rfl, by decide +kernel, by decide +kernel⟩
theorem im_X9_hold : Cond.instanceMethod yX9_hold ∈ wsL_law := zmem 760 (by decide +kernel) rfl
theorem mv_X9_hold : zMv yX9_hold := ⟨im_X9_hold, zmem 761 (by decide +kernel) rfl⟩
theorem mt_X9_breath : zMt yX9_breath mX9_breath 1 := ⟨zmem 766 (by decide +kernel) rfl, zmem 43 (by decide +kernel) rfl, by decide +kernel, by decide +kernel⟩
theorem im_X9_breath : Cond.instanceMethod yX9_breath ∈ wsL_law := zmem 764 (by decide +kernel) rfl
theorem mv_X9_breath : zMv yX9_breath := ⟨im_X9_breath, zmem 765 (by decide +kernel) rfl⟩
theorem mt_X9_coat : zMt yX9_coat mX9_coat 3 := ⟨zmem 770 (by decide +kernel) rfl, zmem 43 (by decide +kernel) rfl, by decide +kernel, by decide +kernel⟩
theorem im_X9_coat : Cond.instanceMethod yX9_coat ∈ wsL_law := zmem 768 (by decide +kernel) rfl
theorem mv_X9_coat : zMv yX9_coat := ⟨im_X9_coat, zmem 769 (by decide +kernel) rfl⟩
theorem mt_X9_move : zMt yX9_move mX9_move 3 := ⟨zmem 774 (by decide +kernel) rfl, zmem 43 (by decide +kernel) rfl, by decide +kernel, by decide +kernel⟩
theorem im_X9_move : Cond.instanceMethod yX9_move ∈ wsL_law := zmem 772 (by decide +kernel) rfl
theorem mv_X9_move : zMv yX9_move := ⟨im_X9_move, zmem 773 (by decide +kernel) rfl⟩
theorem mt_X9_say : zMt yX9_say mX9_say 1 := ⟨zmem 778 (by decide +kernel) rfl, zmem 43 (by decide +kernel) rfl, by decide +kernel, by decide +kernel⟩
theorem im_X9_say : Cond.instanceMethod yX9_say ∈ wsL_law := zmem 776 (by decide +kernel) rfl
theorem mv_X9_say : zMv yX9_say := ⟨im_X9_say, zmem 777 (by decide +kernel) rfl⟩
theorem mt_X9_wipe : zMt yX9_wipe mX9_wipe 0 := ⟨zmem 782 (by decide +kernel) rfl, zmem 43 (by decide +kernel) rfl, by decide +kernel, by decide +kernel⟩
theorem im_X9_wipe : Cond.instanceMethod yX9_wipe ∈ wsL_law := zmem 780 (by decide +kernel) rfl
theorem mv_X9_wipe : zMv yX9_wipe := ⟨im_X9_wipe, zmem 781 (by decide +kernel) rfl⟩
theorem mt_X9_faultOf : zMt yX9_faultOf mX9_faultOf 0 := ⟨zmem 790 (by decide +kernel) rfl, zmem 43 (by decide +kernel) rfl, by decide +kernel, by decide +kernel⟩
theorem im_X9_faultOf : Cond.instanceMethod yX9_faultOf ∈ wsL_law := zmem 789 (by decide +kernel) rfl
theorem mv_X9_faultOf : zMv yX9_faultOf := ⟨im_X9_faultOf, zmem 17 (by decide +kernel) rfl⟩
theorem mt_X9_fault : zMt yX9_fault mX9_fault 0 := ⟨zmem 786 (by decide +kernel) rfl, zmem 43 (by decide +kernel) rfl, by decide +kernel, by decide +kernel⟩
theorem im_X9_fault : Cond.instanceMethod yX9_fault ∈ wsL_law := zmem 784 (by decide +kernel) rfl
theorem mv_X9_fault : zMv yX9_fault := ⟨im_X9_fault, zmem 785 (by decide +kernel) rfl⟩
theorem mt_X9_asNow : zMt yX9_asNow mX9_asNow 0 := ⟨zmem 802 (by decide +kernel) rfl, zmem 43 (by decide +kernel) rfl, by decide +kernel, by decide +kernel⟩
theorem im_X9_asNow : Cond.instanceMethod yX9_asNow ∈ wsL_law := zmem 801 (by decide +kernel) rfl
theorem mv_X9_asNow : zMv yX9_asNow := ⟨im_X9_asNow, zmem 19 (by decide +kernel) rfl⟩
theorem mt_X9_stands : zMt yX9_stands mX9_stands 1 := ⟨zmem 814 (by decide +kernel) rfl, zmem 43 (by decide +kernel) rfl, by decide +kernel, by decide +kernel⟩
theorem im_X9_stands : Cond.instanceMethod yX9_stands ∈ wsL_law := zmem 813 (by decide +kernel) rfl
theorem mv_X9_stands : zMv yX9_stands := ⟨im_X9_stands, zmem 22 (by decide +kernel) rfl⟩
theorem mt_X9_grip : zMt yX9_grip mX9_grip 2 := ⟨zmem 825 (by decide +kernel) rfl, zmem 43 (by decide +kernel) rfl, by decide +kernel, by decide +kernel⟩
theorem im_X9_grip : Cond.instanceMethod yX9_grip ∈ wsL_law := zmem 824 (by decide +kernel) rfl
theorem mv_X9_grip : zMv yX9_grip := ⟨im_X9_grip, zmem 24 (by decide +kernel) rfl⟩
theorem mt_X9_join : zMt yX9_join mX9_join 2 := ⟨zmem 810 (by decide +kernel) rfl, zmem 43 (by decide +kernel) rfl, by decide +kernel, by decide +kernel⟩
theorem im_X9_join : Cond.instanceMethod yX9_join ∈ wsL_law := zmem 809 (by decide +kernel) rfl
theorem mv_X9_join : zMv yX9_join := ⟨im_X9_join, zmem 21 (by decide +kernel) rfl⟩
theorem mt_X9_sitBy : zMt yX9_sitBy mX9_sitBy 1 := ⟨zmem 821 (by decide +kernel) rfl, zmem 43 (by decide +kernel) rfl, by decide +kernel, by decide +kernel⟩
theorem im_X9_sitBy : Cond.instanceMethod yX9_sitBy ∈ wsL_law := zmem 820 (by decide +kernel) rfl
theorem mv_X9_sitBy : zMv yX9_sitBy := ⟨im_X9_sitBy, zmem 23 (by decide +kernel) rfl⟩
theorem mt_X9_rest : zMt yX9_rest mX9_rest 0 := ⟨zmem 829 (by decide +kernel) rfl, zmem 43 (by decide +kernel) rfl, by decide +kernel, by decide +kernel⟩
theorem im_X9_rest : Cond.instanceMethod yX9_rest ∈ wsL_law := zmem 828 (by decide +kernel) rfl
theorem mv_X9_rest : zMv yX9_rest := ⟨im_X9_rest, zmem 25 (by decide +kernel) rfl⟩
theorem mt_X9_endHour : zMt yX9_endHour mX9_endHour 0 := ⟨zmem 833 (by decide +kernel) rfl, zmem 43 (by decide +kernel) rfl, by decide +kernel, by decide +kernel⟩
theorem im_X9_endHour : Cond.instanceMethod yX9_endHour ∈ wsL_law := zmem 832 (by decide +kernel) rfl
theorem mv_X9_endHour : zMv yX9_endHour := ⟨im_X9_endHour, zmem 26 (by decide +kernel) rfl⟩
theorem mt_X9_griefAct : zMt yX9_griefAct mX9_griefAct 3 := ⟨zmem 806 (by decide +kernel) rfl, zmem 43 (by decide +kernel) rfl, by decide +kernel, by decide +kernel⟩
theorem im_X9_griefAct : Cond.instanceMethod yX9_griefAct ∈ wsL_law := zmem 805 (by decide +kernel) rfl
theorem mv_X9_griefAct : zMv yX9_griefAct := ⟨im_X9_griefAct, zmem 20 (by decide +kernel) rfl⟩
theorem mt_X9_goDays : zMt yX9_goDays mX9_goDays 0 := ⟨zmem 798 (by decide +kernel) rfl, zmem 43 (by decide +kernel) rfl, by decide +kernel, by decide +kernel⟩
theorem im_X9_goDays : Cond.instanceMethod yX9_goDays ∈ wsL_law := zmem 797 (by decide +kernel) rfl
theorem mv_X9_goDays : zMv yX9_goDays := ⟨im_X9_goDays, zmem 18 (by decide +kernel) rfl⟩
theorem mt_X9_judge : zMt yX9_judge mX9_judge 1 := ⟨zmem 794 (by decide +kernel) rfl, zmem 43 (by decide +kernel) rfl, by decide +kernel, by decide +kernel⟩
theorem im_X9_judge : Cond.instanceMethod yX9_judge ∈ wsL_law := zmem 792 (by decide +kernel) rfl
theorem mv_X9_judge : zMv yX9_judge := ⟨im_X9_judge, zmem 793 (by decide +kernel) rfl⟩
theorem mt_X9_barOfDays : zMt yX9_barOfDays mX9_barOfDays 0 := ⟨zmem 841 (by decide +kernel) rfl, zmem 43 (by decide +kernel) rfl, by decide +kernel, by decide +kernel⟩
theorem im_X9_barOfDays : Cond.instanceMethod yX9_barOfDays ∈ wsL_law := zmem 840 (by decide +kernel) rfl
theorem mv_X9_barOfDays : zMv yX9_barOfDays := ⟨im_X9_barOfDays, zmem 27 (by decide +kernel) rfl⟩
theorem mt_X9_done : zMt yX9_done mX9_done 0 := ⟨zmem 837 (by decide +kernel) rfl, zmem 43 (by decide +kernel) rfl, by decide +kernel, by decide +kernel⟩
theorem im_X9_done : Cond.instanceMethod yX9_done ∈ wsL_law := zmem 835 (by decide +kernel) rfl
theorem mv_X9_done : zMv yX9_done := ⟨im_X9_done, zmem 836 (by decide +kernel) rfl⟩
theorem mt_X9_behind : zMt yX9_behind mX9_behind 2 := ⟨zmem 845 (by decide +kernel) rfl, zmem 43 (by decide +kernel) rfl, by decide +kernel, by decide +kernel⟩
theorem im_X9_behind : Cond.instanceMethod yX9_behind ∈ wsL_law := zmem 843 (by decide +kernel) rfl
theorem mv_X9_behind : zMv yX9_behind := ⟨im_X9_behind, zmem 844 (by decide +kernel) rfl⟩
theorem mt_X9_then : zMt yX9_then mX9_then 1 := ⟨zmem 853 (by decide +kernel) rfl, zmem 43 (by decide +kernel) rfl, by decide +kernel, by decide +kernel⟩
theorem im_X9_then : Cond.instanceMethod yX9_then ∈ wsL_law := zmem 851 (by decide +kernel) rfl
theorem mv_X9_then : zMv yX9_then := ⟨im_X9_then, zmem 852 (by decide +kernel) rfl⟩
theorem mt_X9_fitsOf : zMt yX9_fitsOf mX9_fitsOf 1 := ⟨zmem 861 (by decide +kernel) rfl, zmem 43 (by decide +kernel) rfl, by decide +kernel, by decide +kernel⟩
theorem im_X9_fitsOf : Cond.instanceMethod yX9_fitsOf ∈ wsL_law := zmem 860 (by decide +kernel) rfl
theorem mv_X9_fitsOf : zMv yX9_fitsOf := ⟨im_X9_fitsOf, zmem 29 (by decide +kernel) rfl⟩
theorem mt_X9_fitting : zMt yX9_fitting mX9_fitting 1 := ⟨zmem 857 (by decide +kernel) rfl, zmem 43 (by decide +kernel) rfl, by decide +kernel, by decide +kernel⟩
theorem im_X9_fitting : Cond.instanceMethod yX9_fitting ∈ wsL_law := zmem 855 (by decide +kernel) rfl
theorem mv_X9_fitting : zMv yX9_fitting := ⟨im_X9_fitting, zmem 856 (by decide +kernel) rfl⟩
theorem mt_X9_leastOf : zMt yX9_leastOf mX9_leastOf 1 := ⟨zmem 869 (by decide +kernel) rfl, zmem 43 (by decide +kernel) rfl, by decide +kernel, by decide +kernel⟩
theorem im_X9_leastOf : Cond.instanceMethod yX9_leastOf ∈ wsL_law := zmem 868 (by decide +kernel) rfl
theorem mv_X9_leastOf : zMv yX9_leastOf := ⟨im_X9_leastOf, zmem 30 (by decide +kernel) rfl⟩
theorem mt_X9_least : zMt yX9_least mX9_least 2 := ⟨zmem 865 (by decide +kernel) rfl, zmem 43 (by decide +kernel) rfl, by decide +kernel, by decide +kernel⟩
theorem im_X9_least : Cond.instanceMethod yX9_least ∈ wsL_law := zmem 863 (by decide +kernel) rfl
theorem mv_X9_least : zMv yX9_least := ⟨im_X9_least, zmem 864 (by decide +kernel) rfl⟩
theorem mt_X9_order : zMt yX9_order mX9_order 1 := ⟨zmem 874 (by decide +kernel) rfl, zmem 43 (by decide +kernel) rfl, by decide +kernel, by decide +kernel⟩
theorem im_X9_order : Cond.instanceMethod yX9_order ∈ wsL_law := zmem 872 (by decide +kernel) rfl
theorem mv_X9_order : zMv yX9_order := ⟨im_X9_order, zmem 873 (by decide +kernel) rfl⟩
theorem mt_X9_make : zMt yX9_make mX9_make 2 := ⟨zmem 878 (by decide +kernel) rfl, zmem 43 (by decide +kernel) rfl, by decide +kernel, by decide +kernel⟩
theorem im_X9_make : Cond.instanceMethod yX9_make ∈ wsL_law := zmem 876 (by decide +kernel) rfl
theorem mv_X9_make : zMv yX9_make := ⟨im_X9_make, zmem 877 (by decide +kernel) rfl⟩
theorem mt_X9_ring : zMt yX9_ring mX9_ring 3 := ⟨zmem 882 (by decide +kernel) rfl, zmem 43 (by decide +kernel) rfl, by decide +kernel, by decide +kernel⟩
theorem im_X9_ring : Cond.instanceMethod yX9_ring ∈ wsL_law := zmem 880 (by decide +kernel) rfl
theorem mv_X9_ring : zMv yX9_ring := ⟨im_X9_ring, zmem 881 (by decide +kernel) rfl⟩
theorem mt_X9_seen : zMt yX9_seen mX9_seen 2 := ⟨zmem 886 (by decide +kernel) rfl, zmem 43 (by decide +kernel) rfl, by decide +kernel, by decide +kernel⟩
theorem im_X9_seen : Cond.instanceMethod yX9_seen ∈ wsL_law := zmem 884 (by decide +kernel) rfl
theorem mv_X9_seen : zMv yX9_seen := ⟨im_X9_seen, zmem 885 (by decide +kernel) rfl⟩
theorem mt_X9_forget : zMt yX9_forget mX9_forget 0 := ⟨zmem 890 (by decide +kernel) rfl, zmem 43 (by decide +kernel) rfl, by decide +kernel, by decide +kernel⟩
theorem im_X9_forget : Cond.instanceMethod yX9_forget ∈ wsL_law := zmem 888 (by decide +kernel) rfl
theorem mv_X9_forget : zMv yX9_forget := ⟨im_X9_forget, zmem 889 (by decide +kernel) rfl⟩
theorem mt_X9_isFit : zMt yX9_isFit mX9_isFit 1 := ⟨zmem 898 (by decide +kernel) rfl, zmem 43 (by decide +kernel) rfl, by decide +kernel, by decide +kernel⟩
theorem im_X9_isFit : Cond.instanceMethod yX9_isFit ∈ wsL_law := zmem 897 (by decide +kernel) rfl
theorem mv_X9_isFit : zMv yX9_isFit := ⟨im_X9_isFit, zmem 31 (by decide +kernel) rfl⟩
theorem mt_X9_shape : zMt yX9_shape mX9_shape 1 := ⟨zmem 894 (by decide +kernel) rfl, zmem 43 (by decide +kernel) rfl, by decide +kernel, by decide +kernel⟩
theorem im_X9_shape : Cond.instanceMethod yX9_shape ∈ wsL_law := zmem 892 (by decide +kernel) rfl
theorem mv_X9_shape : zMv yX9_shape := ⟨im_X9_shape, zmem 893 (by decide +kernel) rfl⟩
theorem mt_X9_ask : zMt yX9_ask mX9_ask 1 := ⟨zmem 902 (by decide +kernel) rfl, zmem 43 (by decide +kernel) rfl, by decide +kernel, by decide +kernel⟩
theorem im_X9_ask : Cond.instanceMethod yX9_ask ∈ wsL_law := zmem 900 (by decide +kernel) rfl
theorem mv_X9_ask : zMv yX9_ask := ⟨im_X9_ask, zmem 901 (by decide +kernel) rfl⟩
theorem mt_X9_layMud : zMt yX9_layMud mX9_layMud 0 := ⟨zmem 910 (by decide +kernel) rfl, zmem 43 (by decide +kernel) rfl, by decide +kernel, by decide +kernel⟩
theorem im_X9_layMud : Cond.instanceMethod yX9_layMud ∈ wsL_law := zmem 909 (by decide +kernel) rfl
theorem mv_X9_layMud : zMv yX9_layMud := ⟨im_X9_layMud, zmem 32 (by decide +kernel) rfl⟩
theorem mt_X9_play : zMt yX9_play mX9_play 2 := ⟨zmem 906 (by decide +kernel) rfl, zmem 43 (by decide +kernel) rfl, by decide +kernel, by decide +kernel⟩
theorem im_X9_play : Cond.instanceMethod yX9_play ∈ wsL_law := zmem 904 (by decide +kernel) rfl
theorem mv_X9_play : zMv yX9_play := ⟨im_X9_play, zmem 905 (by decide +kernel) rfl⟩
theorem mt_X9_themselves : zMt yX9_themselves mX9_themselves 4 := ⟨zmem 914 (by decide +kernel) rfl, zmem 43 (by decide +kernel) rfl, by decide +kernel, by decide +kernel⟩
theorem im_X9_themselves : Cond.instanceMethod yX9_themselves ∈ wsL_law := zmem 912 (by decide +kernel) rfl
theorem mv_X9_themselves : zMv yX9_themselves := ⟨im_X9_themselves, zmem 913 (by decide +kernel) rfl⟩
theorem mt_X9_year : zMt yX9_year mX9_year 3 := ⟨zmem 920 (by decide +kernel) rfl, zmem 43 (by decide +kernel) rfl, by decide +kernel, by decide +kernel⟩
theorem im_X9_year : Cond.instanceMethod yX9_year ∈ wsL_law := zmem 918 (by decide +kernel) rfl
theorem mv_X9_year : zMv yX9_year := ⟨im_X9_year, zmem 919 (by decide +kernel) rfl⟩
theorem mt_X9_image : zMt yX9_image mX9_image 1 := ⟨zmem 925 (by decide +kernel) rfl, zmem 43 (by decide +kernel) rfl, by decide +kernel, by decide +kernel⟩
theorem im_X9_image : Cond.instanceMethod yX9_image ∈ wsL_law := zmem 923 (by decide +kernel) rfl
theorem mv_X9_image : zMv yX9_image := ⟨im_X9_image, zmem 924 (by decide +kernel) rfl⟩
theorem mt_X9_restore : zMt yX9_restore mX9_restore 1 := ⟨zmem 929 (by decide +kernel) rfl, zmem 43 (by decide +kernel) rfl, by decide +kernel, by decide +kernel⟩
theorem im_X9_restore : Cond.instanceMethod yX9_restore ∈ wsL_law := zmem 927 (by decide +kernel) rfl
theorem mv_X9_restore : zMv yX9_restore := ⟨im_X9_restore, zmem 928 (by decide +kernel) rfl⟩
theorem mt_X9_told : zMt yX9_told mX9_told 1 := ⟨zmem 933 (by decide +kernel) rfl, zmem 43 (by decide +kernel) rfl, by decide +kernel, by decide +kernel⟩
theorem im_X9_told : Cond.instanceMethod yX9_told ∈ wsL_law := zmem 931 (by decide +kernel) rfl
theorem mv_X9_told : zMv yX9_told := ⟨im_X9_told, zmem 932 (by decide +kernel) rfl⟩
theorem mt_J6_bitCount_0f7a4 : zMt yJ6_bitCount_0f7a4 mJ6_bitCount_0f7a4 1 := ⟨zmem 292 (by decide +kernel) rfl, zmem 44 (by decide +kernel) rfl, by decide +kernel, by decide +kernel⟩
theorem st_J6_bitCount_0f7a4 : Cond.static yJ6_bitCount_0f7a4 ∈ wsL_law := zmem 291 (by decide +kernel) rfl
theorem mt_J9_max_7cf53 : zMt yJ9_max_7cf53 mJ9_max_7cf53 2 := ⟨zmem 417 (by decide +kernel) rfl, zmem 45 (by decide +kernel) rfl, by decide +kernel, by decide +kernel⟩
theorem st_J9_max_7cf53 : Cond.static yJ9_max_7cf53 ∈ wsL_law := zmem 416 (by decide +kernel) rfl
theorem mt_J9_min_7cf53 : zMt yJ9_min_7cf53 mJ9_min_7cf53 2 := ⟨zmem 386 (by decide +kernel) rfl, zmem 45 (by decide +kernel) rfl, by decide +kernel, by decide +kernel⟩
theorem st_J9_min_7cf53 : Cond.static yJ9_min_7cf53 ∈ wsL_law := zmem 385 (by decide +kernel) rfl
theorem ml_L_9 : Cond.methodLink RL 9 yX8_init ∈ wsL_law := zmem 49 (by decide +kernel) rfl
theorem ml_X8_1 : Cond.methodLink RX8 1 objectInit ∈ wsL_law := zmem 52 (by decide +kernel) rfl
theorem ml_X8_9 : Cond.methodLink RX8 9 yX3_init ∈ wsL_law := zmem 57 (by decide +kernel) rfl
theorem ml_X3_3 : Cond.methodLink RX3 3 objectInit ∈ wsL_law := zmem 60 (by decide +kernel) rfl
theorem ml_X5_3 : Cond.methodLink RX5 3 objectInit ∈ wsL_law := zmem 123 (by decide +kernel) rfl
theorem ml_X1_3 : Cond.methodLink RX1 3 objectInit ∈ wsL_law := zmem 138 (by decide +kernel) rfl
theorem ml_X1_11 : Cond.methodLink RX1 11 yX3_init ∈ wsL_law := zmem 140 (by decide +kernel) rfl
theorem ml_X0_1 : Cond.methodLink RX0 1 objectInit ∈ wsL_law := zmem 146 (by decide +kernel) rfl
theorem ml_X6_3 : Cond.methodLink RX6 3 objectInit ∈ wsL_law := zmem 195 (by decide +kernel) rfl
theorem ml_X4_3 : Cond.methodLink RX4 3 objectInit ∈ wsL_law := zmem 205 (by decide +kernel) rfl
theorem ml_X7_3 : Cond.methodLink RX7 3 objectInit ∈ wsL_law := zmem 226 (by decide +kernel) rfl
theorem ml_X2_3 : Cond.methodLink RX2 3 objectInit ∈ wsL_law := zmem 240 (by decide +kernel) rfl
theorem ml_L_13 : Cond.methodLink RL 13 yX8_grief ∈ wsL_law := zmem 276 (by decide +kernel) rfl
theorem ml_X8_62 : Cond.methodLink RX8 62 yX8_isFrom ∈ wsL_law := zmem 280 (by decide +kernel) rfl
theorem ml_X8_66 : Cond.methodLink RX8 66 yX8_isSetOfMarks ∈ wsL_law := zmem 283 (by decide +kernel) rfl
theorem ml_X8_77 : Cond.methodLink RX8 77 yX3_griefsThere ∈ wsL_law := zmem 286 (by decide +kernel) rfl
theorem ml_X8_81 : Cond.methodLink RX8 81 yJ6_bitCount_0f7a4 ∈ wsL_law := zmem 290 (by decide +kernel) rfl
theorem ml_L_18 : Cond.methodLink RL 18 yX8_hold ∈ wsL_law := zmem 296 (by decide +kernel) rfl
theorem ml_X8_87 : Cond.methodLink RX8 87 yX8_isHold ∈ wsL_law := zmem 300 (by decide +kernel) rfl
theorem ml_X8_90 : Cond.methodLink RX8 90 yX3_holdAsNumber ∈ wsL_law := zmem 303 (by decide +kernel) rfl
theorem ml_L_23 : Cond.methodLink RL 23 yX8_breath ∈ wsL_law := zmem 307 (by decide +kernel) rfl
theorem ml_L_28 : Cond.methodLink RL 28 yX8_coat ∈ wsL_law := zmem 311 (by decide +kernel) rfl
theorem ml_X8_106 : Cond.methodLink RX8 106 yX8_areHours ∈ wsL_law := zmem 315 (by decide +kernel) rfl
theorem ml_X8_110 : Cond.methodLink RX8 110 yX3_coatAsNumber ∈ wsL_law := zmem 318 (by decide +kernel) rfl
theorem ml_L_32 : Cond.methodLink RL 32 yX8_move ∈ wsL_law := zmem 322 (by decide +kernel) rfl
theorem ml_X8_119 : Cond.methodLink RX8 119 yX8_isState ∈ wsL_law := zmem 326 (by decide +kernel) rfl
theorem ml_X8_125 : Cond.methodLink RX8 125 yX3_countMoves ∈ wsL_law := zmem 329 (by decide +kernel) rfl
theorem ml_X3_61 : Cond.methodLink RX3 61 yJ6_bitCount_0f7a4 ∈ wsL_law := zmem 333 (by decide +kernel) rfl
theorem ml_L_37 : Cond.methodLink RL 37 yX8_say ∈ wsL_law := zmem 334 (by decide +kernel) rfl
theorem ml_X8_128 : Cond.methodLink RX8 128 yX5_write ∈ wsL_law := zmem 338 (by decide +kernel) rfl
theorem ml_L_41 : Cond.methodLink RL 41 yX8_wipe ∈ wsL_law := zmem 342 (by decide +kernel) rfl
theorem ml_L_46 : Cond.methodLink RL 46 yX8_fault ∈ wsL_law := zmem 346 (by decide +kernel) rfl
theorem ml_X8_134 : Cond.methodLink RX8 134 yX5_findFault ∈ wsL_law := zmem 350 (by decide +kernel) rfl
theorem ml_X5_19 : Cond.methodLink RX5 19 yX5_signAt ∈ wsL_law := zmem 354 (by decide +kernel) rfl
theorem ml_X5_23 : Cond.methodLink RX5 23 yX5_awaitedAfter ∈ wsL_law := zmem 359 (by decide +kernel) rfl
theorem ml_X5_27 : Cond.methodLink RX5 27 yX5_isLetter ∈ wsL_law := zmem 362 (by decide +kernel) rfl
theorem ml_L_50 : Cond.methodLink RL 50 yX8_judge ∈ wsL_law := zmem 365 (by decide +kernel) rfl
theorem ml_X8_137 : Cond.methodLink RX8 137 yX1_run ∈ wsL_law := zmem 369 (by decide +kernel) rfl
theorem ml_X1_41 : Cond.methodLink RX1 41 yX1_begin ∈ wsL_law := zmem 373 (by decide +kernel) rfl
theorem ml_X1_61 : Cond.methodLink RX1 61 yX3_become ∈ wsL_law := zmem 377 (by decide +kernel) rfl
theorem ml_X8_263 : Cond.methodLink RX8 263 Lib.Math.min.name ∈ wsL_law := zmem 384 (by decide +kernel) rfl
theorem ml_X8_268 : Cond.methodLink RX8 268 arraycopyName ∈ wsL_law := zmem 387 (by decide +kernel) rfl
theorem ml_X1_50 : Cond.methodLink RX1 50 yX5_read ∈ wsL_law := zmem 390 (by decide +kernel) rfl
theorem ml_X5_37 : Cond.methodLink RX5 37 yX0_become ∈ wsL_law := zmem 394 (by decide +kernel) rfl
theorem ml_X1_54 : Cond.methodLink RX1 54 yX3_attempt ∈ wsL_law := zmem 398 (by decide +kernel) rfl
theorem ml_X3_82 : Cond.methodLink RX3 82 yX3_takeHold ∈ wsL_law := zmem 402 (by decide +kernel) rfl
theorem ml_X3_99 : Cond.methodLink RX3 99 yX3_isThere ∈ wsL_law := zmem 406 (by decide +kernel) rfl
theorem ml_X3_106 : Cond.methodLink RX3 106 Lib.Math.max.name ∈ wsL_law := zmem 415 (by decide +kernel) rfl
theorem ml_X3_86 : Cond.methodLink RX3 86 yX3_join ∈ wsL_law := zmem 418 (by decide +kernel) rfl
theorem ml_X3_111 : Cond.methodLink RX3 111 Lib.Math.min.name ∈ wsL_law := zmem 422 (by decide +kernel) rfl
theorem ml_X3_89 : Cond.methodLink RX3 89 yX3_sitBy ∈ wsL_law := zmem 423 (by decide +kernel) rfl
theorem ml_X3_92 : Cond.methodLink RX3 92 yX3_rest ∈ wsL_law := zmem 427 (by decide +kernel) rfl
theorem ml_X3_96 : Cond.methodLink RX3 96 yX3_passHour ∈ wsL_law := zmem 431 (by decide +kernel) rfl
theorem ml_X1_58 : Cond.methodLink RX1 58 yX1_noteDown ∈ wsL_law := zmem 435 (by decide +kernel) rfl
theorem ml_X1_70 : Cond.methodLink RX1 70 yX3_isThere ∈ wsL_law := zmem 439 (by decide +kernel) rfl
theorem ml_L_54 : Cond.methodLink RL 54 yX8_done ∈ wsL_law := zmem 440 (by decide +kernel) rfl
theorem ml_X8_147 : Cond.methodLink RX8 147 yX8_tryDays ∈ wsL_law := zmem 444 (by decide +kernel) rfl
theorem ml_X8_154 : Cond.methodLink RX8 154 yX3_become ∈ wsL_law := zmem 448 (by decide +kernel) rfl
theorem ml_L_58 : Cond.methodLink RL 58 yX8_behind ∈ wsL_law := zmem 449 (by decide +kernel) rfl
theorem ml_X8_158 : Cond.methodLink RX8 158 yX3_isThere ∈ wsL_law := zmem 453 (by decide +kernel) rfl
theorem ml_X8_161 : Cond.methodLink RX8 161 yX3_griefPart ∈ wsL_law := zmem 454 (by decide +kernel) rfl
theorem ml_L_63 : Cond.methodLink RL 63 yX8_then ∈ wsL_law := zmem 458 (by decide +kernel) rfl
theorem ml_L_67 : Cond.methodLink RL 67 yX8_fitting ∈ wsL_law := zmem 462 (by decide +kernel) rfl
theorem ml_X8_177 : Cond.methodLink RX8 177 yX3_holdsThatFit ∈ wsL_law := zmem 466 (by decide +kernel) rfl
theorem ml_L_71 : Cond.methodLink RL 71 yX8_least ∈ wsL_law := zmem 470 (by decide +kernel) rfl
theorem ml_X8_180 : Cond.methodLink RX8 180 yX6_priceOf ∈ wsL_law := zmem 474 (by decide +kernel) rfl
theorem ml_X6_15 : Cond.methodLink RX6 15 yX3_holdsThatFit ∈ wsL_law := zmem 478 (by decide +kernel) rfl
theorem ml_X6_28 : Cond.methodLink RX6 28 yX6_cheapest ∈ wsL_law := zmem 480 (by decide +kernel) rfl
theorem ml_X6_40 : Cond.methodLink RX6 40 Lib.Math.max.name ∈ wsL_law := zmem 488 (by decide +kernel) rfl
theorem ml_X6_49 : Cond.methodLink RX6 49 Lib.Math.min.name ∈ wsL_law := zmem 489 (by decide +kernel) rfl
theorem ml_L_75 : Cond.methodLink RL 75 yX8_order ∈ wsL_law := zmem 490 (by decide +kernel) rfl
theorem ml_X8_184 : Cond.methodLink RX8 184 yX4_work ∈ wsL_law := zmem 494 (by decide +kernel) rfl
theorem ml_X4_29 : Cond.methodLink RX4 29 yX3_isThere ∈ wsL_law := zmem 498 (by decide +kernel) rfl
theorem ml_X4_35 : Cond.methodLink RX4 35 yX6_priceOf ∈ wsL_law := zmem 499 (by decide +kernel) rfl
theorem ml_X4_43 : Cond.methodLink RX4 43 yX4_leastOf ∈ wsL_law := zmem 501 (by decide +kernel) rfl
theorem ml_X4_50 : Cond.methodLink RX4 50 yX4_borneIfFirst ∈ wsL_law := zmem 507 (by decide +kernel) rfl
theorem ml_X4_60 : Cond.methodLink RX4 60 yX3_strengthOf ∈ wsL_law := zmem 511 (by decide +kernel) rfl
theorem ml_X4_54 : Cond.methodLink RX4 54 Lib.Math.min.name ∈ wsL_law := zmem 516 (by decide +kernel) rfl
theorem ml_X8_187 : Cond.methodLink RX8 187 yX4_leastBorne ∈ wsL_law := zmem 517 (by decide +kernel) rfl
theorem ml_X8_190 : Cond.methodLink RX8 190 yX4_firstTaken ∈ wsL_law := zmem 521 (by decide +kernel) rfl
theorem ml_L_79 : Cond.methodLink RL 79 yX8_make ∈ wsL_law := zmem 525 (by decide +kernel) rfl
theorem ml_X8_194 : Cond.methodLink RX8 194 yX3_leastSetWith ∈ wsL_law := zmem 529 (by decide +kernel) rfl
theorem ml_X3_117 : Cond.methodLink RX3 117 yX3_griefsThere ∈ wsL_law := zmem 533 (by decide +kernel) rfl
theorem ml_X3_120 : Cond.methodLink RX3 120 yX3_marksOf ∈ wsL_law := zmem 534 (by decide +kernel) rfl
theorem ml_X3_123 : Cond.methodLink RX3 123 yX3_strengthOf ∈ wsL_law := zmem 538 (by decide +kernel) rfl
theorem ml_X8_197 : Cond.methodLink RX8 197 yX3_strengthOf ∈ wsL_law := zmem 539 (by decide +kernel) rfl
theorem ml_L_83 : Cond.methodLink RL 83 yX8_ring ∈ wsL_law := zmem 540 (by decide +kernel) rfl
theorem ml_X8_200 : Cond.methodLink RX8 200 yX8_hoursFrom ∈ wsL_law := zmem 544 (by decide +kernel) rfl
theorem ml_X8_203 : Cond.methodLink RX8 203 yX3_fewestCoatsFor ∈ wsL_law := zmem 547 (by decide +kernel) rfl
theorem ml_X3_129 : Cond.methodLink RX3 129 yX3_hoursOf ∈ wsL_law := zmem 551 (by decide +kernel) rfl
theorem ml_L_87 : Cond.methodLink RL 87 yX8_seen ∈ wsL_law := zmem 556 (by decide +kernel) rfl
theorem ml_X8_206 : Cond.methodLink RX8 206 yX3_addSight ∈ wsL_law := zmem 560 (by decide +kernel) rfl
theorem ml_L_92 : Cond.methodLink RL 92 yX8_forget ∈ wsL_law := zmem 564 (by decide +kernel) rfl
theorem ml_L_96 : Cond.methodLink RL 96 yX8_shape ∈ wsL_law := zmem 568 (by decide +kernel) rfl
theorem ml_X8_213 : Cond.methodLink RX8 213 yX7_find ∈ wsL_law := zmem 572 (by decide +kernel) rfl
theorem ml_X7_19 : Cond.methodLink RX7 19 yX3_isAsSeen ∈ wsL_law := zmem 576 (by decide +kernel) rfl
theorem ml_X8_217 : Cond.methodLink RX8 217 yX7_shapeAt ∈ wsL_law := zmem 580 (by decide +kernel) rfl
theorem ml_L_100 : Cond.methodLink RL 100 yX8_ask ∈ wsL_law := zmem 585 (by decide +kernel) rfl
theorem ml_X8_220 : Cond.methodLink RX8 220 yX7_holdToTry ∈ wsL_law := zmem 589 (by decide +kernel) rfl
theorem ml_X7_32 : Cond.methodLink RX7 32 yX7_mostLeftBy ∈ wsL_law := zmem 593 (by decide +kernel) rfl
theorem ml_X7_40 : Cond.methodLink RX7 40 Lib.Math.max.name ∈ wsL_law := zmem 598 (by decide +kernel) rfl
theorem ml_X8_223 : Cond.methodLink RX8 223 yX7_mostLeftBy ∈ wsL_law := zmem 599 (by decide +kernel) rfl
theorem ml_L_104 : Cond.methodLink RL 104 yX8_play ∈ wsL_law := zmem 600 (by decide +kernel) rfl
theorem ml_X8_226 : Cond.methodLink RX8 226 yX2_solve ∈ wsL_law := zmem 604 (by decide +kernel) rfl
theorem ml_X2_18 : Cond.methodLink RX2 18 yX2_settle ∈ wsL_law := zmem 608 (by decide +kernel) rfl
theorem ml_X2_22 : Cond.methodLink RX2 22 yX2_leastSettled ∈ wsL_law := zmem 612 (by decide +kernel) rfl
theorem ml_X2_26 : Cond.methodLink RX2 26 yX2_areAllWon ∈ wsL_law := zmem 617 (by decide +kernel) rfl
theorem ml_X8_236 : Cond.methodLink RX8 236 yX2_firstMove ∈ wsL_law := zmem 621 (by decide +kernel) rfl
theorem ml_L_108 : Cond.methodLink RL 108 yX8_themselves ∈ wsL_law := zmem 625 (by decide +kernel) rfl
theorem ml_X8_242 : Cond.methodLink RX8 242 yX8_choose ∈ wsL_law := zmem 630 (by decide +kernel) rfl
theorem ml_X8_246 : Cond.methodLink RX8 246 yX8_power ∈ wsL_law := zmem 633 (by decide +kernel) rfl
theorem ml_L_113 : Cond.methodLink RL 113 yX8_year ∈ wsL_law := zmem 639 (by decide +kernel) rfl
theorem ml_X8_256 : Cond.methodLink RX8 256 yX1_runYear ∈ wsL_law := zmem 643 (by decide +kernel) rfl
theorem ml_X1_75 : Cond.methodLink RX1 75 yX1_draw ∈ wsL_law := zmem 648 (by decide +kernel) rfl
theorem ml_X1_79 : Cond.methodLink RX1 79 yX0_become ∈ wsL_law := zmem 652 (by decide +kernel) rfl
theorem ml_L_117 : Cond.methodLink RL 117 yX8_image ∈ wsL_law := zmem 653 (by decide +kernel) rfl
theorem ml_L_121 : Cond.methodLink RL 121 yX8_restore ∈ wsL_law := zmem 657 (by decide +kernel) rfl
theorem ml_L_125 : Cond.methodLink RL 125 yX8_told ∈ wsL_law := zmem 661 (by decide +kernel) rfl
theorem ml_X8_260 : Cond.methodLink RX8 260 yX8_toldOfGrief ∈ wsL_law := zmem 665 (by decide +kernel) rfl
theorem ml_L_12 : Cond.methodLink RL 12 yX9_init ∈ wsL_law := zmem 671 (by decide +kernel) rfl
theorem ml_X9_1 : Cond.methodLink RX9 1 objectInit ∈ wsL_law := zmem 674 (by decide +kernel) rfl
theorem ml_L_17 : Cond.methodLink RL 17 yX9_grief ∈ wsL_law := zmem 749 (by decide +kernel) rfl
theorem ml_X9_63 : Cond.methodLink RX9 63 yX9_in ∈ wsL_law := zmem 753 (by decide +kernel) rfl
theorem ml_X9_71 : Cond.methodLink RX9 71 yX9_bits ∈ wsL_law := zmem 756 (by decide +kernel) rfl
theorem ml_L_22 : Cond.methodLink RL 22 yX9_hold ∈ wsL_law := zmem 759 (by decide +kernel) rfl
theorem ml_L_27 : Cond.methodLink RL 27 yX9_breath ∈ wsL_law := zmem 763 (by decide +kernel) rfl
theorem ml_L_31 : Cond.methodLink RL 31 yX9_coat ∈ wsL_law := zmem 767 (by decide +kernel) rfl
theorem ml_L_36 : Cond.methodLink RL 36 yX9_move ∈ wsL_law := zmem 771 (by decide +kernel) rfl
theorem ml_L_40 : Cond.methodLink RL 40 yX9_say ∈ wsL_law := zmem 775 (by decide +kernel) rfl
theorem ml_L_45 : Cond.methodLink RL 45 yX9_wipe ∈ wsL_law := zmem 779 (by decide +kernel) rfl
theorem ml_L_49 : Cond.methodLink RL 49 yX9_fault ∈ wsL_law := zmem 783 (by decide +kernel) rfl
theorem ml_X9_79 : Cond.methodLink RX9 79 yX9_faultOf ∈ wsL_law := zmem 787 (by decide +kernel) rfl
theorem ml_L_53 : Cond.methodLink RL 53 yX9_judge ∈ wsL_law := zmem 791 (by decide +kernel) rfl
theorem ml_X9_125 : Cond.methodLink RX9 125 yX9_goDays ∈ wsL_law := zmem 795 (by decide +kernel) rfl
theorem ml_X9_106 : Cond.methodLink RX9 106 yX9_asNow ∈ wsL_law := zmem 799 (by decide +kernel) rfl
theorem ml_X9_112 : Cond.methodLink RX9 112 yX9_griefAct ∈ wsL_law := zmem 803 (by decide +kernel) rfl
theorem ml_X9_96 : Cond.methodLink RX9 96 yX9_join ∈ wsL_law := zmem 807 (by decide +kernel) rfl
theorem ml_X9_92 : Cond.methodLink RX9 92 yX9_stands ∈ wsL_law := zmem 811 (by decide +kernel) rfl
theorem ml_X9_67 : Cond.methodLink RX9 67 yX9_has ∈ wsL_law := zmem 815 (by decide +kernel) rfl
theorem ml_X9_100 : Cond.methodLink RX9 100 yX9_sitBy ∈ wsL_law := zmem 818 (by decide +kernel) rfl
theorem ml_X9_103 : Cond.methodLink RX9 103 yX9_grip ∈ wsL_law := zmem 822 (by decide +kernel) rfl
theorem ml_X9_119 : Cond.methodLink RX9 119 yX9_rest ∈ wsL_law := zmem 826 (by decide +kernel) rfl
theorem ml_X9_122 : Cond.methodLink RX9 122 yX9_endHour ∈ wsL_law := zmem 830 (by decide +kernel) rfl
theorem ml_L_57 : Cond.methodLink RL 57 yX9_done ∈ wsL_law := zmem 834 (by decide +kernel) rfl
theorem ml_X9_128 : Cond.methodLink RX9 128 yX9_barOfDays ∈ wsL_law := zmem 838 (by decide +kernel) rfl
theorem ml_L_62 : Cond.methodLink RL 62 yX9_behind ∈ wsL_law := zmem 842 (by decide +kernel) rfl
theorem ml_X9_131 : Cond.methodLink RX9 131 yX9_isThere ∈ wsL_law := zmem 846 (by decide +kernel) rfl
theorem ml_L_66 : Cond.methodLink RL 66 yX9_then ∈ wsL_law := zmem 850 (by decide +kernel) rfl
theorem ml_L_70 : Cond.methodLink RL 70 yX9_fitting ∈ wsL_law := zmem 854 (by decide +kernel) rfl
theorem ml_X9_134 : Cond.methodLink RX9 134 yX9_fitsOf ∈ wsL_law := zmem 858 (by decide +kernel) rfl
theorem ml_L_74 : Cond.methodLink RL 74 yX9_least ∈ wsL_law := zmem 862 (by decide +kernel) rfl
theorem ml_X9_138 : Cond.methodLink RX9 138 yX9_leastOf ∈ wsL_law := zmem 866 (by decide +kernel) rfl
theorem ml_L_78 : Cond.methodLink RL 78 yX9_order ∈ wsL_law := zmem 871 (by decide +kernel) rfl
theorem ml_L_82 : Cond.methodLink RL 82 yX9_make ∈ wsL_law := zmem 875 (by decide +kernel) rfl
theorem ml_L_86 : Cond.methodLink RL 86 yX9_ring ∈ wsL_law := zmem 879 (by decide +kernel) rfl
theorem ml_L_91 : Cond.methodLink RL 91 yX9_seen ∈ wsL_law := zmem 883 (by decide +kernel) rfl
theorem ml_L_95 : Cond.methodLink RL 95 yX9_forget ∈ wsL_law := zmem 887 (by decide +kernel) rfl
theorem ml_L_99 : Cond.methodLink RL 99 yX9_shape ∈ wsL_law := zmem 891 (by decide +kernel) rfl
theorem ml_X9_144 : Cond.methodLink RX9 144 yX9_isFit ∈ wsL_law := zmem 895 (by decide +kernel) rfl
theorem ml_L_103 : Cond.methodLink RL 103 yX9_ask ∈ wsL_law := zmem 899 (by decide +kernel) rfl
theorem ml_L_107 : Cond.methodLink RL 107 yX9_play ∈ wsL_law := zmem 903 (by decide +kernel) rfl
theorem ml_X9_147 : Cond.methodLink RX9 147 yX9_layMud ∈ wsL_law := zmem 907 (by decide +kernel) rfl
theorem ml_L_112 : Cond.methodLink RL 112 yX9_themselves ∈ wsL_law := zmem 911 (by decide +kernel) rfl
theorem ml_L_116 : Cond.methodLink RL 116 yX9_year ∈ wsL_law := zmem 917 (by decide +kernel) rfl
theorem ml_L_120 : Cond.methodLink RL 120 yX9_image ∈ wsL_law := zmem 922 (by decide +kernel) rfl
theorem ml_L_124 : Cond.methodLink RL 124 yX9_restore ∈ wsL_law := zmem 926 (by decide +kernel) rfl
theorem ml_L_128 : Cond.methodLink RL 128 yX9_told ∈ wsL_law := zmem 930 (by decide +kernel) rfl
theorem nn_X8_18 : (RX8, 18, yX5_init, RX8) ∈ zNW := List.mem_of_getElem? (i := 0) rfl
theorem nn_X8_25 : (RX8, 25, yX1_init, RX8) ∈ zNW := List.mem_of_getElem? (i := 1) rfl
theorem nn_X1_20 : (RX1, 20, yX0_init, RX8) ∈ zNW := List.mem_of_getElem? (i := 2) rfl
theorem nn_X8_32 : (RX8, 32, yX6_init, RX8) ∈ zNW := List.mem_of_getElem? (i := 3) rfl
theorem nn_X8_39 : (RX8, 39, yX4_init, RX8) ∈ zNW := List.mem_of_getElem? (i := 4) rfl
theorem nn_X4_11 : (RX4, 11, yX6_init, RX8) ∈ zNW := List.mem_of_getElem? (i := 5) rfl
theorem nn_X8_46 : (RX8, 46, yX7_init, RX8) ∈ zNW := List.mem_of_getElem? (i := 6) rfl
theorem nn_X8_53 : (RX8, 53, yX2_init, RX8) ∈ zNW := List.mem_of_getElem? (i := 7) rfl
theorem nn_X5_31 : (RX5, 31, yX8_isFrom, RX8) ∈ zNW := List.mem_of_getElem? (i := 8) rfl
theorem nn_X3_53 : (RX3, 53, yX8_copyRow, RX8) ∈ zNW := List.mem_of_getElem? (i := 9) rfl
theorem nn_X3_57 : (RX3, 57, yX8_isFrom, RX8) ∈ zNW := List.mem_of_getElem? (i := 10) rfl
theorem nn_X3_103 : (RX3, 103, yX8_isHold, RX8) ∈ zNW := List.mem_of_getElem? (i := 11) rfl
theorem nn_X3_67 : (RX3, 67, yX8_isWithin, RX8) ∈ zNW := List.mem_of_getElem? (i := 12) rfl
theorem nn_X6_24 : (RX6, 24, yX8_isFrom, RX8) ∈ zNW := List.mem_of_getElem? (i := 13) rfl
theorem nn_X6_33 : (RX6, 33, yX8_isIn, RX8) ∈ zNW := List.mem_of_getElem? (i := 14) rfl
theorem nn_X4_39 : (RX4, 39, yX8_isWithin, RX8) ∈ zNW := List.mem_of_getElem? (i := 15) rfl
theorem nn_X4_47 : (RX4, 47, yX8_isIn, RX8) ∈ zNW := List.mem_of_getElem? (i := 16) rfl
theorem nn_X3_114 : (RX3, 114, yX8_isIn, RX8) ∈ zNW := List.mem_of_getElem? (i := 17) rfl
theorem nn_X3_126 : (RX3, 126, yX8_hoursFrom, RX8) ∈ zNW := List.mem_of_getElem? (i := 18) rfl
theorem nn_X7_25 : (RX7, 25, yX8_isFrom, RX8) ∈ zNW := List.mem_of_getElem? (i := 19) rfl
theorem nn_X7_36 : (RX7, 36, yX8_isWithin, RX8) ∈ zNW := List.mem_of_getElem? (i := 20) rfl
theorem nn_X2_30 : (RX2, 30, yX8_isIn, RX8) ∈ zNW := List.mem_of_getElem? (i := 21) rfl
theorem o_im : Cond.instanceMethod objectInit ∈ wsL_law := zmem 53 (by decide +kernel) rfl
theorem o_cd : Cond.code objectInit ⟨#[0xb1]⟩ 1 none ∈ wsL_law := zmem 54 (by decide +kernel) rfl
theorem j_max_st : Cond.static Lib.Math.max.name ∈ wsL_law := zmem 416 (by decide +kernel) rfl
theorem j_max_cd : Cond.code Lib.Math.max.name Lib.Math.max.code 2 (some .int) ∈ wsL_law := zmem 417 (by decide +kernel) rfl
theorem j_min_st : Cond.static Lib.Math.min.name ∈ wsL_law := zmem 385 (by decide +kernel) rfl
theorem j_min_cd : Cond.code Lib.Math.min.name Lib.Math.min.code 2 (some .int) ∈ wsL_law := zmem 386 (by decide +kernel) rfl
theorem j_math : Cond.initialized "java/lang/Math" ∈ wsL_law := zmem 45 (by decide +kernel) rfl
theorem j_cp_na : Cond.native arraycopyName ∈ wsL_law := zmem 389 (by decide +kernel) rfl
theorem j_cp_st : Cond.static arraycopyName ∈ wsL_law := zmem 388 (by decide +kernel) rfl
theorem j_cp_in : Cond.initialized "java/lang/System" ∈ wsL_law := zmem 46 (by decide +kernel) rfl
theorem ar_int : Cond.arrayClass .int ∈ wsL_law := zmem 116 (by decide +kernel) rfl
theorem ar_bool : Cond.arrayClass .boolean ∈ wsL_law := zmem 117 (by decide +kernel) rfl
theorem ar_long : Cond.arrayClass .long ∈ wsL_law := zmem 748 (by decide +kernel) rfl
