theorem gdX0 : ∀ w ∈ u_ws RX0 TX0 2, w ∈ lw_gd := by decide +kernel
theorem ttX0 : TT TX0 2 := ⟨tyX0, tyX0_ok, nmX0⟩
theorem gdX1 : ∀ w ∈ u_ws RX1 TX1 2, w ∈ lw_gd := by decide +kernel
theorem ttX1 : TT TX1 2 := ⟨tyX1, tyX1_ok, nmX1⟩
theorem gdX2 : ∀ w ∈ u_ws RX2 TX2 6, w ∈ lw_gd := by decide +kernel
theorem ttX2 : TT TX2 6 := ⟨tyX2, tyX2_ok, nmX2⟩
theorem gdX3 : ∀ w ∈ u_ws RX3 TX3 8, w ∈ lw_gd := by decide +kernel
theorem ttX3 : TT TX3 8 := ⟨tyX3, tyX3_ok, nmX3⟩
theorem gdX4 : ∀ w ∈ u_ws RX4 TX4 7, w ∈ lw_gd := by decide +kernel
theorem ttX4 : TT TX4 7 := ⟨tyX4, tyX4_ok, nmX4⟩
theorem gdX5 : ∀ w ∈ u_ws RX5 TX5 4, w ∈ lw_gd := by decide +kernel
theorem ttX5 : TT TX5 4 := ⟨tyX5, tyX5_ok, nmX5⟩
theorem gdX6 : ∀ w ∈ u_ws RX6 TX6 5, w ∈ lw_gd := by decide +kernel
theorem ttX6 : TT TX6 5 := ⟨tyX6, tyX6_ok, nmX6⟩
theorem gdX7 : ∀ w ∈ u_ws RX7 TX7 5, w ∈ lw_gd := by decide +kernel
theorem ttX7 : TT TX7 5 := ⟨tyX7, tyX7_ok, nmX7⟩
theorem gdX8 : ∀ w ∈ u_ws RX8 TX8 8, w ∈ lw_gd := by decide +kernel
theorem ttX8 : TT TX8 8 := ⟨tyX8, tyX8_ok, nmX8⟩
theorem gdX9 : ∀ w ∈ u_ws RX9 TX9 35, w ∈ lw_gd := by decide +kernel
theorem ttX9 : TT TX9 35 := ⟨tyX9, tyX9_ok, nmX9⟩
def YB_at : YY := (cX0_at, 2, RX0, (some (.object "GuestHouse$Promise")), { frames := 0, cells := 0, slots := 0, locals := 0 }, false, fun _ _ => True, [])
def YB_isFull : YY := (cX0_isFull, 1, RX0, (some .boolean), { frames := 0, cells := 0, slots := 0, locals := 0 }, false, fun _ _ => True, [])
def YB_enter : YY := (cX0_enter, 2, RX0, (some .int), { frames := 0, cells := 0, slots := 0, locals := 0 }, false, fun _ _ => True, [])
def YQ_stands : YY := (cX3_stands, 1, RX3, (some .boolean), { frames := 0, cells := 0, slots := 0, locals := 0 }, false, fun _ _ => True, [])
def YB_standingCount : YY := (cX0_standingCount, 4, RX0, (some .int), { frames := 1, cells := 0, slots := 0, locals := 21 }, false, fun _ _ => True, [])
def YQ_isAhead : YY := (cX3_isAhead, 1, RX3, (some .boolean), { frames := 0, cells := 0, slots := 0, locals := 0 }, false, fun _ _ => True, [])
def YQ_covers : YY := (cX3_covers, 2, RX3, (some .boolean), { frames := 0, cells := 0, slots := 0, locals := 0 }, false, fun _ _ => True, [])
def YB_missNight : YY := (cX0_missNight, 4, RX0, none, { frames := 1, cells := 0, slots := 0, locals := 21 }, false, fun _ _ => True, [])
def YG_isNight : YY := (cX8_isNight, 1, RX8, (some .boolean), { frames := 0, cells := 0, slots := 0, locals := 0 }, false, fun _ _ => True, [])
def YQ_spotIn : YY := (cX3_spotIn, 2, RX3, (some .int), { frames := 1, cells := 0, slots := 0, locals := 20 }, false, fun _ _ => True, [])
def YB_walkFrom : YY := (cX0_walkFrom, 5, RX0, (some .int), { frames := 2, cells := 0, slots := 0, locals := 41 }, false, fun _ _ => True, [])
def YB_turnTo : YY := (cX0_turnTo, 4, RX0, none, { frames := 1, cells := 0, slots := 0, locals := 21 }, false, fun _ _ => True, [])
def YH_roomAt : YY := (cX1_roomAt, 2, RX1, (some (.object "GuestHouse$Room")), { frames := 0, cells := 0, slots := 0, locals := 0 }, false, fun _ _ => True, [])
def YG_isPlace : YY := (cX8_isPlace, 1, RX8, (some .boolean), { frames := 0, cells := 0, slots := 0, locals := 0 }, false, fun _ _ => True, [])
def YH_isEmpty : YY := (cX1_isEmpty, 2, RX1, (some .boolean), { frames := 1, cells := 0, slots := 0, locals := 20 }, false, fun _ _ => True, [])
def YH_kindAt : YY := (cX1_kindAt, 3, RX1, (some .int), { frames := 1, cells := 0, slots := 0, locals := 21 }, false, fun _ _ => True, [])
def YH_putRoom : YY := (cX1_putRoom, 3, RX1, none, { frames := 1, cells := 0, slots := 0, locals := 20 }, false, fun _ _ => True, [])
def YH_putStore : YY := (cX1_putStore, 2, RX1, none, { frames := 1, cells := 0, slots := 0, locals := 20 }, false, fun _ _ => True, [])
def YH_join : YY := (cX1_join, 4, RX1, (some .boolean), { frames := 1, cells := 0, slots := 0, locals := 20 }, false, fun _ _ => True, [])
def YR_stateIn : YY := (cX4_stateIn, 2, RX4, (some .int), { frames := 0, cells := 0, slots := 0, locals := 0 }, false, fun _ _ => True, [])
def YR_isOpen : YY := (cX4_isOpen, 2, RX4, (some .boolean), { frames := 1, cells := 0, slots := 0, locals := 21 }, false, fun _ _ => True, [])
def YH_isOpenOfKind : YY := (cX1_isOpenOfKind, 5, RX1, (some .boolean), { frames := 2, cells := 0, slots := 0, locals := 42 }, false, fun _ _ => True, [])
def YR_units : YY := (cX4_units, 1, RX4, (some .int), { frames := 0, cells := 0, slots := 0, locals := 0 }, false, fun _ _ => True, [])
def YH_openUnits : YY := (cX1_openUnits, 6, RX1, (some .int), { frames := 2, cells := 0, slots := 0, locals := 42 }, false, fun _ _ => True, [])
def YH_roomCount : YY := (cX1_roomCount, 3, RX1, (some .int), { frames := 0, cells := 0, slots := 0, locals := 0 }, false, fun _ _ => True, [])
def YH_storeCount : YY := (cX1_storeCount, 3, RX1, (some .int), { frames := 0, cells := 0, slots := 0, locals := 0 }, false, fun _ _ => True, [])
def YH_doorCount : YY := (cX1_doorCount, 4, RX1, (some .int), { frames := 0, cells := 0, slots := 0, locals := 0 }, false, fun _ _ => True, [])
def YQ_setSpot : YY := (cX3_setSpot, 3, RX3, none, { frames := 1, cells := 0, slots := 0, locals := 20 }, false, fun _ _ => True, [])
def YP_gather : YY := (cX2_gather, 4, RX2, none, { frames := 2, cells := 0, slots := 0, locals := 42 }, false, fun _ _ => True, [])
def YJ_fill : YY := (cJ7_fill_53178, 4, RJ7, none, { frames := 0, cells := 0, slots := 0, locals := 0 }, false, fun _ _ => True, [])
def YV_isFree : YY := (cX7_isFree, 3, RX7, (some .boolean), { frames := 0, cells := 0, slots := 0, locals := 0 }, false, fun _ _ => True, [])
def YV_begin : YY := (cX7_begin, 4, RX7, none, { frames := 2, cells := 0, slots := 0, locals := 42 }, false, fun _ _ => True, [])
def YG_isWant : YY := (cX8_isWant, 1, RX8, (some .boolean), { frames := 0, cells := 0, slots := 0, locals := 0 }, false, fun _ _ => True, [])
def YV_addNeed : YY := (cX7_addNeed, 2, RX7, none, { frames := 1, cells := 0, slots := 0, locals := 20 }, false, fun _ _ => True, [])
def YV_fits : YY := (cX7_fits, 5, RX7, (some .boolean), { frames := 0, cells := 0, slots := 0, locals := 0 }, false, fun _ _ => True, [])
def YV_dropNeed : YY := (cX7_dropNeed, 2, RX7, none, { frames := 1, cells := 0, slots := 0, locals := 20 }, false, fun _ _ => True, [])
def YP_keepThose : YY := (cX2_keepThose, 4, RX2, none, { frames := 2, cells := 0, slots := 0, locals := 41 }, false, fun _ _ => True, [])
def YG_placeOf : YY := (cX8_placeOf, 1, RX8, (some .int), { frames := 0, cells := 0, slots := 0, locals := 0 }, false, fun _ _ => True, [])
def YG_bedOf : YY := (cX8_bedOf, 1, RX8, (some .int), { frames := 0, cells := 0, slots := 0, locals := 0 }, false, fun _ _ => True, [])
def YG_isSuite : YY := (cX8_isSuite, 1, RX8, (some .boolean), { frames := 0, cells := 0, slots := 0, locals := 0 }, false, fun _ _ => True, [])
def YV_turn : YY := (cX7_turn, 5, RX7, none, { frames := 1, cells := 0, slots := 0, locals := 22 }, false, fun _ _ => True, [])
def YV_take : YY := (cX7_take, 6, RX7, (some .boolean), { frames := 2, cells := 0, slots := 0, locals := 46 }, false, fun _ _ => True, [])
def YP_spotAgain : YY := (cX2_spotAgain, 4, RX2, (some .int), { frames := 3, cells := 0, slots := 0, locals := 71 }, false, fun _ _ => True, [])
def YG_spotCode : YY := (cX8_spotCode, 3, RX8, (some .int), { frames := 0, cells := 0, slots := 0, locals := 0 }, false, fun _ _ => True, [])
def YP_firstSuite : YY := (cX2_firstSuite, 4, RX2, (some .int), { frames := 3, cells := 0, slots := 0, locals := 71 }, false, fun _ _ => True, [])
def YR_suits : YY := (cX4_suits, 2, RX4, (some .boolean), { frames := 0, cells := 0, slots := 0, locals := 0 }, false, fun _ _ => True, [])
def YP_firstUnit : YY := (cX2_firstUnit, 7, RX2, (some .int), { frames := 3, cells := 0, slots := 0, locals := 71 }, false, fun _ _ => True, [])
def YP_makeNight : YY := (cX2_makeNight, 4, RX2, none, { frames := 4, cells := 0, slots := 0, locals := 97 }, false, fun _ _ => True, [])
def YQ_init : YY := (cX3_init, 4, RX3, none, { frames := 1, cells := 1, slots := 60, locals := 23 }, true, fun _ _ => True, [])
def YQ_setNights : YY := (cX3_setNights, 5, RX3, none, { frames := 0, cells := 0, slots := 0, locals := 0 }, false, fun _ _ => True, [])
def YQ_nightsHad : YY := (cX3_nightsHad, 4, RX3, (some .int), { frames := 2, cells := 0, slots := 0, locals := 41 }, false, fun _ _ => True, [])
def YQ_movesIn : YY := (cX3_movesIn, 7, RX3, (some .int), { frames := 2, cells := 0, slots := 0, locals := 41 }, false, fun _ _ => True, [])
def YR_init : YY := (cX4_init, 5, RX4, none, { frames := 1, cells := 0, slots := 0, locals := 12 }, true, fun _ _ => True, [])
def YJ_min : YY := (cJ9_min_7cf53, 2, RJ9, (some .int), { frames := 0, cells := 0, slots := 0, locals := 0 }, false, fun _ _ => True, [])
def YJL_bitCount : YY := (cJ13_bitCount_95d88, 2, RJ13, (some .int), { frames := 0, cells := 0, slots := 0, locals := 0 }, false, fun _ _ => True, [])
def YR_setShut : YY := (cX4_setShut, 9, RX4, (some .int), { frames := 1, cells := 0, slots := 0, locals := 21 }, false, fun _ _ => True, [])
def YR_lengthen : YY := (cX4_lengthen, 2, RX4, (some .int), { frames := 0, cells := 0, slots := 0, locals := 0 }, false, fun _ _ => True, [])
def YR_closeAltogether : YY := (cX4_closeAltogether, 1, RX4, none, { frames := 0, cells := 0, slots := 0, locals := 0 }, false, fun _ _ => True, [])
def YU_init : YY := (cX5_init, 4, RX5, none, { frames := 1, cells := 0, slots := 0, locals := 12 }, true, fun _ _ => True, [])
def YU_forbidsEnd : YY := (cX5_forbidsEnd, 2, RX5, (some .boolean), { frames := 0, cells := 0, slots := 0, locals := 0 }, false, fun _ _ => True, [])
def YU_percentageOf : YY := (cX5_percentageOf, 4, RX5, (some .int), { frames := 0, cells := 0, slots := 0, locals := 0 }, false, fun _ _ => True, [])
def YJ_max : YY := (cJ9_max_7cf53, 2, RJ9, (some .int), { frames := 0, cells := 0, slots := 0, locals := 0 }, false, fun _ _ => True, [])
def YT_setAmount : YY := (cX6_setAmount, 6, RX6, none, { frames := 1, cells := 0, slots := 0, locals := 21 }, false, fun _ _ => True, [])
def YT_isRule : YY := (cX6_isRule, 4, RX6, (some .boolean), { frames := 0, cells := 0, slots := 0, locals := 0 }, false, fun _ _ => True, [])
def YT_addRule : YY := (cX6_addRule, 4, RX6, (some .int), { frames := 2, cells := 1, slots := 4, locals := 35 }, false, fun _ _ => True, [])
def YT_endRule : YY := (cX6_endRule, 3, RX6, (some .boolean), { frames := 0, cells := 0, slots := 0, locals := 0 }, false, fun _ _ => True, [])
def YT_heldRules : YY := (cX6_heldRules, 4, RX6, (some .int), { frames := 0, cells := 0, slots := 0, locals := 0 }, false, fun _ _ => True, [])
def YT_mayEnd : YY := (cX6_mayEnd, 4, RX6, (some .boolean), { frames := 1, cells := 0, slots := 0, locals := 21 }, false, fun _ _ => True, [])
def YT_costBy : YY := (cX6_costBy, 8, RX6, (some .long), { frames := 1, cells := 0, slots := 0, locals := 23 }, false, fun _ _ => True, [])
def YG_isSpan : YY := (cX8_isSpan, 2, RX8, (some .boolean), { frames := 0, cells := 0, slots := 0, locals := 0 }, false, fun _ _ => True, [])
def YT_costOf : YY := (cX6_costOf, 8, RX6, (some .long), { frames := 2, cells := 0, slots := 0, locals := 50 }, false, fun _ _ => True, [])
def YT_searchLastPart : YY := (cX6_searchLastPart, 11, RX6, none, { frames := 2, cells := 0, slots := 0, locals := 50 }, false, fun _ _ => True, [])
def YT_search : YY := (cX6_search, 6, RX6, (some .boolean), { frames := 3, cells := 0, slots := 0, locals := 80 }, false, fun _ _ => True, [])
def YT_leastCost : YY := (cX6_leastCost, 5, RX6, (some .long), { frames := 4, cells := 0, slots := 0, locals := 105 }, false, fun _ _ => True, [])
def YT_leastParts : YY := (cX6_leastParts, 5, RX6, (some .int), { frames := 4, cells := 0, slots := 0, locals := 105 }, false, fun _ _ => True, [])
def YV_roomless : YY := (cX7_roomless, 7, RX7, (some .int), { frames := 1, cells := 0, slots := 0, locals := 21 }, false, fun _ _ => True, [])
def YV_shortage : YY := (cX7_shortage, 4, RX7, (some .int), { frames := 2, cells := 0, slots := 0, locals := 47 }, false, fun _ _ => True, [])
def YG_replanFrom : YY := (cX8_replanFrom, 2, RX8, none, { frames := 1, cells := 0, slots := 0, locals := 21 }, false, fun _ _ => True, [])
def YG_room : YY := (cX8_room, 6, RX8, (some .boolean), { frames := 2, cells := 1, slots := 7, locals := 42 }, false, fun _ _ => True, [])
def YG_store : YY := (cX8_store, 2, RX8, (some .boolean), { frames := 2, cells := 0, slots := 0, locals := 41 }, false, fun _ _ => True, [])
def YG_door : YY := (cX8_door, 2, RX8, (some .boolean), { frames := 2, cells := 0, slots := 0, locals := 43 }, false, fun _ _ => True, [])
def YG_shut : YY := (cX8_shut, 6, RX8, (some .int), { frames := 2, cells := 0, slots := 0, locals := 49 }, false, fun _ _ => True, [])
def YG_open : YY := (cX8_open, 4, RX8, (some .int), { frames := 2, cells := 0, slots := 0, locals := 42 }, false, fun _ _ => True, [])
def YG_close : YY := (cX8_close, 3, RX8, (some .boolean), { frames := 2, cells := 0, slots := 0, locals := 42 }, false, fun _ _ => True, [])
def YG_look : YY := (cX8_look, 4, RX8, (some .int), { frames := 2, cells := 0, slots := 0, locals := 43 }, false, fun _ _ => True, [])
def YG_night : YY := (cX8_night, 4, RX8, (some .int), { frames := 1, cells := 0, slots := 0, locals := 21 }, false, fun _ _ => True, [])
def YG_isWish : YY := (cX8_isWish, 4, RX8, (some .boolean), { frames := 1, cells := 0, slots := 0, locals := 20 }, false, fun _ _ => True, [])
def YG_mostPeople : YY := (cX8_mostPeople, 1, RX8, (some .int), { frames := 0, cells := 0, slots := 0, locals := 0 }, false, fun _ _ => True, [])
def YG_shortOf : YY := (cX8_shortOf, 6, RX8, (some .int), { frames := 3, cells := 0, slots := 0, locals := 70 }, false, fun _ _ => True, [])
def YG_refusalOf : YY := (cX8_refusalOf, 7, RX8, (some .int), { frames := 5, cells := 0, slots := 0, locals := 129 }, false, fun _ _ => True, [])
def YG_can : YY := (cX8_can, 5, RX8, (some .int), { frames := 6, cells := 0, slots := 0, locals := 155 }, false, fun _ _ => True, [])
def YG_promise : YY := (cX8_promise, 8, RX8, (some .int), { frames := 6, cells := 2, slots := 68, locals := 155 }, false, fun _ _ => True, [])
def YG_setState : YY := (cX8_setState, 3, RX8, none, { frames := 2, cells := 0, slots := 0, locals := 42 }, false, fun _ _ => True, [])
def YG_firm : YY := (cX8_firm, 3, RX8, (some .boolean), { frames := 3, cells := 0, slots := 0, locals := 64 }, false, fun _ _ => True, [])
def YG_cancel : YY := (cX8_cancel, 3, RX8, (some .boolean), { frames := 3, cells := 0, slots := 0, locals := 64 }, false, fun _ _ => True, [])
def YG_change : YY := (cX8_change, 6, RX8, (some .int), { frames := 6, cells := 0, slots := 0, locals := 155 }, false, fun _ _ => True, [])
def YG_come : YY := (cX8_come, 3, RX8, (some .boolean), { frames := 3, cells := 0, slots := 0, locals := 64 }, false, fun _ _ => True, [])
def YG_planUpTo : YY := (cX8_planUpTo, 3, RX8, none, { frames := 5, cells := 0, slots := 0, locals := 120 }, false, fun _ _ => True, [])
def YG_next : YY := (cX8_next, 2, RX8, (some .int), { frames := 6, cells := 0, slots := 0, locals := 142 }, false, fun _ _ => True, [])
def YG_promised : YY := (cX8_promised, 4, RX8, (some .long), { frames := 3, cells := 0, slots := 0, locals := 67 }, false, fun _ _ => True, [])
def YG_spot : YY := (cX8_spot, 4, RX8, (some .int), { frames := 6, cells := 0, slots := 0, locals := 142 }, false, fun _ _ => True, [])
def YG_moves : YY := (cX8_moves, 4, RX8, (some .int), { frames := 6, cells := 0, slots := 0, locals := 142 }, false, fun _ _ => True, [])
def YJ_bitCount : YY := (cJ6_bitCount_0f7a4, 1, RJ6, (some .int), { frames := 0, cells := 0, slots := 0, locals := 0 }, false, fun _ _ => True, [])
def YG_floors : YY := (cX8_floors, 8, RX8, (some .int), { frames := 6, cells := 0, slots := 0, locals := 142 }, false, fun _ _ => True, [])
def YG_lacks : YY := (cX8_lacks, 2, RX8, (some .int), { frames := 4, cells := 0, slots := 0, locals := 95 }, false, fun _ _ => True, [])
def YG_takenUnits : YY := (cX8_takenUnits, 7, RX8, (some .int), { frames := 3, cells := 0, slots := 0, locals := 66 }, false, fun _ _ => True, [])
def YG_rooms : YY := (cX8_rooms, 4, RX8, (some .int), { frames := 6, cells := 0, slots := 0, locals := 142 }, false, fun _ _ => True, [])
def YG_over : YY := (cX8_over, 2, RX8, (some .boolean), { frames := 0, cells := 0, slots := 0, locals := 0 }, false, fun _ _ => True, [])
def YG_price : YY := (cX8_price, 5, RX8, (some .boolean), { frames := 2, cells := 0, slots := 0, locals := 46 }, false, fun _ _ => True, [])
def YG_rule : YY := (cX8_rule, 4, RX8, (some .int), { frames := 3, cells := 1, slots := 4, locals := 58 }, false, fun _ _ => True, [])
def YG_drop : YY := (cX8_drop, 2, RX8, (some .boolean), { frames := 1, cells := 0, slots := 0, locals := 22 }, false, fun _ _ => True, [])
def YG_cost : YY := (cX8_cost, 4, RX8, (some .long), { frames := 3, cells := 0, slots := 0, locals := 77 }, false, fun _ _ => True, [])
def YG_least : YY := (cX8_least, 5, RX8, (some .long), { frames := 5, cells := 0, slots := 0, locals := 129 }, false, fun _ _ => True, [])
def YG_count : YY := (cX8_count, 2, RX8, (some .int), { frames := 2, cells := 0, slots := 0, locals := 44 }, false, fun _ _ => True, [])
def YM_thrown : YY := (cX9_thrown, 1, RX9, (some .int), { frames := 0, cells := 0, slots := 0, locals := 0 }, false, fun _ _ => True, [])
def YM_less : YY := (cX9_less, 2, RX9, (some .int), { frames := 0, cells := 0, slots := 0, locals := 0 }, false, fun _ _ => True, [])
def YM_isPlace : YY := (cX9_isPlace, 1, RX9, (some .boolean), { frames := 0, cells := 0, slots := 0, locals := 0 }, false, fun _ _ => True, [])
def YM_isRoom : YY := (cX9_isRoom, 2, RX9, (some .boolean), { frames := 1, cells := 0, slots := 0, locals := 20 }, false, fun _ _ => True, [])
def YM_isNight : YY := (cX9_isNight, 1, RX9, (some .boolean), { frames := 0, cells := 0, slots := 0, locals := 0 }, false, fun _ _ => True, [])
def YM_isOpen : YY := (cX9_isOpen, 3, RX9, (some .boolean), { frames := 0, cells := 0, slots := 0, locals := 0 }, false, fun _ _ => True, [])
def YM_room : YY := (cX9_room, 6, RX9, (some .boolean), { frames := 1, cells := 0, slots := 0, locals := 20 }, false, fun _ _ => True, [])
def YM_store : YY := (cX9_store, 2, RX9, (some .boolean), { frames := 1, cells := 0, slots := 0, locals := 20 }, false, fun _ _ => True, [])
def YM_door : YY := (cX9_door, 2, RX9, (some .boolean), { frames := 1, cells := 0, slots := 0, locals := 20 }, false, fun _ _ => True, [])
def YM_isSpan : YY := (cX9_isSpan, 2, RX9, (some .boolean), { frames := 0, cells := 0, slots := 0, locals := 0 }, false, fun _ _ => True, [])
def YM_shut : YY := (cX9_shut, 8, RX9, (some .int), { frames := 2, cells := 0, slots := 0, locals := 41 }, false, fun _ _ => True, [])
def YM_open : YY := (cX9_open, 3, RX9, (some .int), { frames := 2, cells := 0, slots := 0, locals := 41 }, false, fun _ _ => True, [])
def YM_close : YY := (cX9_close, 2, RX9, (some .boolean), { frames := 2, cells := 0, slots := 0, locals := 41 }, false, fun _ _ => True, [])
def YM_look : YY := (cX9_look, 3, RX9, (some .int), { frames := 2, cells := 0, slots := 0, locals := 41 }, false, fun _ _ => True, [])
def YM_night : YY := (cX9_night, 3, RX9, (some .int), { frames := 2, cells := 0, slots := 0, locals := 41 }, false, fun _ _ => True, [])
def YM_is : YY := (cX9_is, 2, RX9, (some .boolean), { frames := 0, cells := 0, slots := 0, locals := 0 }, false, fun _ _ => True, [])
def YM_stands : YY := (cX9_stands, 2, RX9, (some .boolean), { frames := 0, cells := 0, slots := 0, locals := 0 }, false, fun _ _ => True, [])
def YM_wants : YY := (cX9_wants, 3, RX9, (some .boolean), { frames := 1, cells := 0, slots := 0, locals := 21 }, false, fun _ _ => True, [])
def YM_fresh : YY := (cX9_fresh, 3, RX9, none, { frames := 0, cells := 0, slots := 0, locals := 0 }, false, fun _ _ => True, [])
def YM_isFree : YY := (cX9_isFree, 2, RX9, (some .boolean), { frames := 1, cells := 0, slots := 0, locals := 22 }, false, fun _ _ => True, [])
def YM_poured : YY := (cX9_poured, 12, RX9, (some .int), { frames := 2, cells := 0, slots := 0, locals := 43 }, false, fun _ _ => True, [])
def YM_canAll : YY := (cX9_canAll, 3, RX9, (some .boolean), { frames := 3, cells := 0, slots := 0, locals := 74 }, false, fun _ _ => True, [])
def YM_lack : YY := (cX9_lack, 8, RX9, (some .int), { frames := 3, cells := 0, slots := 0, locals := 74 }, false, fun _ _ => True, [])
def YM_keep : YY := (cX9_keep, 4, RX9, none, { frames := 4, cells := 0, slots := 0, locals := 96 }, false, fun _ _ => True, [])
def YM_gives : YY := (cX9_gives, 9, RX9, (some .boolean), { frames := 4, cells := 0, slots := 0, locals := 96 }, false, fun _ _ => True, [])
def YM_plan : YY := (cX9_plan, 4, RX9, none, { frames := 5, cells := 0, slots := 0, locals := 124 }, false, fun _ _ => True, [])
def YM_plans : YY := (cX9_plans, 2, RX9, none, { frames := 6, cells := 0, slots := 0, locals := 147 }, false, fun _ _ => True, [])
def YM_costOf : YY := (cX9_costOf, 9, RX9, (some .long), { frames := 0, cells := 0, slots := 0, locals := 0 }, false, fun _ _ => True, [])
def YM_ways : YY := (cX9_ways, 9, RX9, none, { frames := 1, cells := 0, slots := 0, locals := 28 }, false, fun _ _ => True, [])
def YM_isWish : YY := (cX9_isWish, 4, RX9, (some .boolean), { frames := 0, cells := 0, slots := 0, locals := 0 }, false, fun _ _ => True, [])
def YM_isParty : YY := (cX9_isParty, 2, RX9, (some .boolean), { frames := 0, cells := 0, slots := 0, locals := 0 }, false, fun _ _ => True, [])
def YM_why : YY := (cX9_why, 7, RX9, (some .int), { frames := 4, cells := 0, slots := 0, locals := 101 }, false, fun _ _ => True, [])
def YM_can : YY := (cX9_can, 6, RX9, (some .int), { frames := 5, cells := 0, slots := 0, locals := 127 }, false, fun _ _ => True, [])
def YM_promise : YY := (cX9_promise, 9, RX9, (some .int), { frames := 6, cells := 0, slots := 0, locals := 152 }, false, fun _ _ => True, [])
def YM_isMade : YY := (cX9_isMade, 2, RX9, (some .boolean), { frames := 1, cells := 0, slots := 0, locals := 21 }, false, fun _ _ => True, [])
def YM_firm : YY := (cX9_firm, 2, RX9, (some .boolean), { frames := 1, cells := 0, slots := 0, locals := 21 }, false, fun _ _ => True, [])
def YM_cancel : YY := (cX9_cancel, 2, RX9, (some .boolean), { frames := 2, cells := 0, slots := 0, locals := 42 }, false, fun _ _ => True, [])
def YM_change : YY := (cX9_change, 5, RX9, (some .int), { frames := 5, cells := 0, slots := 0, locals := 127 }, false, fun _ _ => True, [])
def YM_come : YY := (cX9_come, 2, RX9, (some .boolean), { frames := 2, cells := 0, slots := 0, locals := 42 }, false, fun _ _ => True, [])
def YM_hasMoved : YY := (cX9_hasMoved, 4, RX9, (some .boolean), { frames := 0, cells := 0, slots := 0, locals := 0 }, false, fun _ _ => True, [])
def YM_next : YY := (cX9_next, 3, RX9, (some .int), { frames := 6, cells := 0, slots := 0, locals := 147 }, false, fun _ _ => True, [])
def YM_promised : YY := (cX9_promised, 3, RX9, (some .long), { frames := 1, cells := 0, slots := 0, locals := 21 }, false, fun _ _ => True, [])
def YM_spot : YY := (cX9_spot, 3, RX9, (some .int), { frames := 7, cells := 0, slots := 0, locals := 168 }, false, fun _ _ => True, [])
def YM_moves : YY := (cX9_moves, 4, RX9, (some .int), { frames := 7, cells := 0, slots := 0, locals := 168 }, false, fun _ _ => True, [])
def YM_floors : YY := (cX9_floors, 7, RX9, (some .int), { frames := 7, cells := 0, slots := 0, locals := 168 }, false, fun _ _ => True, [])
def YM_lacks : YY := (cX9_lacks, 2, RX9, (some .int), { frames := 4, cells := 0, slots := 0, locals := 101 }, false, fun _ _ => True, [])
def YM_hasSomebody : YY := (cX9_hasSomebody, 6, RX9, (some .boolean), { frames := 0, cells := 0, slots := 0, locals := 0 }, false, fun _ _ => True, [])
def YM_rooms : YY := (cX9_rooms, 7, RX9, (some .int), { frames := 7, cells := 0, slots := 0, locals := 168 }, false, fun _ _ => True, [])
def YM_over : YY := (cX9_over, 2, RX9, (some .boolean), { frames := 0, cells := 0, slots := 0, locals := 0 }, false, fun _ _ => True, [])
def YM_price : YY := (cX9_price, 6, RX9, (some .boolean), { frames := 1, cells := 0, slots := 0, locals := 21 }, false, fun _ _ => True, [])
def YM_rule : YY := (cX9_rule, 5, RX9, (some .int), { frames := 0, cells := 0, slots := 0, locals := 0 }, false, fun _ _ => True, [])
def YM_drop : YY := (cX9_drop, 2, RX9, (some .boolean), { frames := 0, cells := 0, slots := 0, locals := 0 }, false, fun _ _ => True, [])
def YM_cost : YY := (cX9_cost, 4, RX9, (some .long), { frames := 1, cells := 0, slots := 0, locals := 28 }, false, fun _ _ => True, [])
def YM_least : YY := (cX9_least, 5, RX9, (some .long), { frames := 2, cells := 0, slots := 0, locals := 56 }, false, fun _ _ => True, [])
def YM_count : YY := (cX9_count, 4, RX9, (some .int), { frames := 2, cells := 0, slots := 0, locals := 41 }, false, fun _ _ => True, [])
set_option maxRecDepth 100000 in
theorem ci_RX6_48 : CI RX6 48 yX5_init YU_init 3 := ⟨⟨Or.inl (gd_of (i := 701) (by decide +kernel) rfl), gd_of (i := 59) (by decide +kernel) rfl, gd_of (i := 703) rfl rfl, by decide, by decide, by decide +kernel⟩, rfl, gd_of (i := 702) (by decide +kernel) rfl, rfl⟩
set_option maxRecDepth 100000 in
theorem ci_RX8_125 : CI RX8 125 yX3_init YQ_init 3 := ⟨⟨Or.inl (gd_of (i := 455) (by decide +kernel) rfl), gd_of (i := 53) (by decide +kernel) rfl, gd_of (i := 457) rfl rfl, by decide, by decide, by decide +kernel⟩, rfl, gd_of (i := 456) (by decide +kernel) rfl, rfl⟩
set_option maxRecDepth 100000 in
theorem ci_RX8_54 : CI RX8 54 yX4_init YR_init 4 := ⟨⟨Or.inl (gd_of (i := 215) (by decide +kernel) rfl), gd_of (i := 49) (by decide +kernel) rfl, gd_of (i := 217) rfl rfl, by decide, by decide, by decide +kernel⟩, rfl, gd_of (i := 216) (by decide +kernel) rfl, rfl⟩
theorem cs_RX1_21 : CS RX1 21 yX8_isPlace YG_isPlace 1 := ⟨⟨Or.inr (nw_of (i := 210) (by decide +kernel) rfl), gd_of (i := 42) (by decide +kernel) rfl, gd_of (i := 212) (by decide +kernel) rfl, by decide, by decide, by decide +kernel⟩, gd_of (i := 211) (by decide +kernel) rfl⟩
theorem cs_RX2_110 : CS RX2 110 yX8_spotCode YG_spotCode 3 := ⟨⟨Or.inr (nw_of (i := 607) (by decide +kernel) rfl), gd_of (i := 42) (by decide +kernel) rfl, gd_of (i := 609) (by decide +kernel) rfl, by decide, by decide, by decide +kernel⟩, gd_of (i := 608) (by decide +kernel) rfl⟩
set_option maxRecDepth 100000 in
theorem cs_RX3_28 : CS RX3 28 yJ7_fill_53178 YJ_fill 2 := ⟨⟨Or.inl (gd_of (i := 459) (by decide +kernel) rfl), gd_of (i := 52) (by decide +kernel) rfl, gd_of (i := 403) rfl rfl, by decide, by decide, by decide +kernel⟩, gd_of (i := 402) (by decide +kernel) rfl⟩
theorem cs_RX3_44 : CS RX3 44 yX8_isNight YG_isNight 1 := ⟨⟨Or.inr (nw_of (i := 557) (by decide +kernel) rfl), gd_of (i := 42) (by decide +kernel) rfl, gd_of (i := 336) (by decide +kernel) rfl, by decide, by decide, by decide +kernel⟩, gd_of (i := 335) (by decide +kernel) rfl⟩
set_option maxRecDepth 100000 in
theorem cs_RX4_47 : CS RX4 47 yJ13_bitCount_95d88 YJL_bitCount 1 := ⟨⟨Or.inl (gd_of (i := 298) (by decide +kernel) rfl), gd_of (i := 51) (by decide +kernel) rfl, gd_of (i := 300) rfl rfl, by decide, by decide, by decide +kernel⟩, gd_of (i := 299) (by decide +kernel) rfl⟩
theorem cs_RX6_30 : CS RX6 30 yX8_isWant YG_isWant 1 := ⟨⟨Or.inr (nw_of (i := 367) (by decide +kernel) rfl), gd_of (i := 42) (by decide +kernel) rfl, gd_of (i := 355) (by decide +kernel) rfl, by decide, by decide, by decide +kernel⟩, gd_of (i := 354) (by decide +kernel) rfl⟩
set_option maxRecDepth 100000 in
theorem cs_RX6_44 : CS RX6 44 yX6_isRule YT_isRule 3 := ⟨⟨Or.inl (gd_of (i := 697) (by decide +kernel) rfl), gd_of (i := 47) (by decide +kernel) rfl, gd_of (i := 699) rfl rfl, by decide, by decide, by decide +kernel⟩, gd_of (i := 698) (by decide +kernel) rfl⟩
theorem cs_RX6_63 : CS RX6 63 yX8_isSpan YG_isSpan 2 := ⟨⟨Or.inr (nw_of (i := 368) (by decide +kernel) rfl), gd_of (i := 42) (by decide +kernel) rfl, gd_of (i := 291) (by decide +kernel) rfl, by decide, by decide, by decide +kernel⟩, gd_of (i := 290) (by decide +kernel) rfl⟩
set_option maxRecDepth 100000 in
theorem cs_RX7_25 : CS RX7 25 yJ7_fill_53178 YJ_fill 2 := ⟨⟨Or.inl (gd_of (i := 401) (by decide +kernel) rfl), gd_of (i := 52) (by decide +kernel) rfl, gd_of (i := 403) rfl rfl, by decide, by decide, by decide +kernel⟩, gd_of (i := 402) (by decide +kernel) rfl⟩
theorem cs_RX7_61 : CS RX7 61 yX8_isWant YG_isWant 1 := ⟨⟨Or.inr (nw_of (i := 434) (by decide +kernel) rfl), gd_of (i := 42) (by decide +kernel) rfl, gd_of (i := 355) (by decide +kernel) rfl, by decide, by decide, by decide +kernel⟩, gd_of (i := 354) (by decide +kernel) rfl⟩
theorem cs_RX7_77 : CS RX7 77 yX8_placeOf YG_placeOf 1 := ⟨⟨Or.inr (nw_of (i := 586) (by decide +kernel) rfl), gd_of (i := 42) (by decide +kernel) rfl, gd_of (i := 588) (by decide +kernel) rfl, by decide, by decide, by decide +kernel⟩, gd_of (i := 587) (by decide +kernel) rfl⟩
theorem cs_RX7_80 : CS RX7 80 yX8_bedOf YG_bedOf 1 := ⟨⟨Or.inr (nw_of (i := 589) (by decide +kernel) rfl), gd_of (i := 42) (by decide +kernel) rfl, gd_of (i := 591) (by decide +kernel) rfl, by decide, by decide, by decide +kernel⟩, gd_of (i := 590) (by decide +kernel) rfl⟩
theorem cs_RX7_83 : CS RX7 83 yX8_isSuite YG_isSuite 1 := ⟨⟨Or.inr (nw_of (i := 592) (by decide +kernel) rfl), gd_of (i := 42) (by decide +kernel) rfl, gd_of (i := 594) (by decide +kernel) rfl, by decide, by decide, by decide +kernel⟩, gd_of (i := 593) (by decide +kernel) rfl⟩
set_option maxRecDepth 100000 in
theorem cs_RX8_110 : CS RX8 110 yX8_isNight YG_isNight 1 := ⟨⟨Or.inl (gd_of (i := 334) (by decide +kernel) rfl), gd_of (i := 42) (by decide +kernel) rfl, gd_of (i := 336) rfl rfl, by decide, by decide, by decide +kernel⟩, gd_of (i := 335) (by decide +kernel) rfl⟩
set_option maxRecDepth 100000 in
theorem cs_RX8_216 : CS RX8 216 yX8_placeOf YG_placeOf 1 := ⟨⟨Or.inl (gd_of (i := 646) (by decide +kernel) rfl), gd_of (i := 42) (by decide +kernel) rfl, gd_of (i := 588) rfl rfl, by decide, by decide, by decide +kernel⟩, gd_of (i := 587) (by decide +kernel) rfl⟩
set_option maxRecDepth 100000 in
theorem cs_RX8_219 : CS RX8 219 yJ6_bitCount_0f7a4 YJ_bitCount 1 := ⟨⟨Or.inl (gd_of (i := 647) (by decide +kernel) rfl), gd_of (i := 58) (by decide +kernel) rfl, gd_of (i := 649) rfl rfl, by decide, by decide, by decide +kernel⟩, gd_of (i := 648) (by decide +kernel) rfl⟩
set_option maxRecDepth 100000 in
theorem cs_RX8_237 : CS RX8 237 yX8_isWant YG_isWant 1 := ⟨⟨Or.inl (gd_of (i := 353) (by decide +kernel) rfl), gd_of (i := 42) (by decide +kernel) rfl, gd_of (i := 355) rfl rfl, by decide, by decide, by decide +kernel⟩, gd_of (i := 354) (by decide +kernel) rfl⟩
set_option maxRecDepth 100000 in
theorem cs_RX8_279 : CS RX8 279 yX8_mostPeople YG_mostPeople 1 := ⟨⟨Or.inl (gd_of (i := 356) (by decide +kernel) rfl), gd_of (i := 42) (by decide +kernel) rfl, gd_of (i := 358) rfl rfl, by decide, by decide, by decide +kernel⟩, gd_of (i := 357) (by decide +kernel) rfl⟩
set_option maxRecDepth 100000 in
theorem cs_RX8_309 : CS RX8 309 yX8_isSuite YG_isSuite 1 := ⟨⟨Or.inl (gd_of (i := 675) (by decide +kernel) rfl), gd_of (i := 42) (by decide +kernel) rfl, gd_of (i := 594) rfl rfl, by decide, by decide, by decide +kernel⟩, gd_of (i := 593) (by decide +kernel) rfl⟩
set_option maxRecDepth 100000 in
theorem cs_RX8_79 : CS RX8 79 yX8_isSpan YG_isSpan 2 := ⟨⟨Or.inl (gd_of (i := 289) (by decide +kernel) rfl), gd_of (i := 42) (by decide +kernel) rfl, gd_of (i := 291) rfl rfl, by decide, by decide, by decide +kernel⟩, gd_of (i := 290) (by decide +kernel) rfl⟩
set_option maxRecDepth 100000 in
theorem cs_RX8_94 : CS RX8 94 yX8_isPlace YG_isPlace 1 := ⟨⟨Or.inl (gd_of (i := 324) (by decide +kernel) rfl), gd_of (i := 42) (by decide +kernel) rfl, gd_of (i := 212) rfl rfl, by decide, by decide, by decide +kernel⟩, gd_of (i := 211) (by decide +kernel) rfl⟩
set_option maxRecDepth 100000 in
theorem cs_RX9_103 : CS RX9 103 yX9_isPlace YM_isPlace 1 := ⟨⟨Or.inl (gd_of (i := 967) (by decide +kernel) rfl), gd_of (i := 48) (by decide +kernel) rfl, gd_of (i := 969) rfl rfl, by decide, by decide, by decide +kernel⟩, gd_of (i := 968) (by decide +kernel) rfl⟩
set_option maxRecDepth 100000 in
theorem cs_RX9_110 : CS RX9 110 yX9_isSpan YM_isSpan 2 := ⟨⟨Or.inl (gd_of (i := 986) (by decide +kernel) rfl), gd_of (i := 48) (by decide +kernel) rfl, gd_of (i := 988) rfl rfl, by decide, by decide, by decide +kernel⟩, gd_of (i := 987) (by decide +kernel) rfl⟩
set_option maxRecDepth 100000 in
theorem cs_RX9_114 : CS RX9 114 yX9_isNight YM_isNight 1 := ⟨⟨Or.inl (gd_of (i := 1005) (by decide +kernel) rfl), gd_of (i := 48) (by decide +kernel) rfl, gd_of (i := 1007) rfl rfl, by decide, by decide, by decide +kernel⟩, gd_of (i := 1006) (by decide +kernel) rfl⟩
set_option maxRecDepth 100000 in
theorem cs_RX9_132 : CS RX9 132 yX9_less YM_less 2 := ⟨⟨Or.inl (gd_of (i := 1061) (by decide +kernel) rfl), gd_of (i := 48) (by decide +kernel) rfl, gd_of (i := 1063) rfl rfl, by decide, by decide, by decide +kernel⟩, gd_of (i := 1062) (by decide +kernel) rfl⟩
set_option maxRecDepth 100000 in
theorem cs_RX9_179 : CS RX9 179 yX9_isParty YM_isParty 2 := ⟨⟨Or.inl (gd_of (i := 1020) (by decide +kernel) rfl), gd_of (i := 48) (by decide +kernel) rfl, gd_of (i := 1022) rfl rfl, by decide, by decide, by decide +kernel⟩, gd_of (i := 1021) (by decide +kernel) rfl⟩
set_option maxRecDepth 100000 in
theorem cv_RX0_21 : CV RX0 21 yX0_at YB_at 1 := ⟨⟨Or.inl (gd_of (i := 537) (by decide +kernel) rfl), gd_of (i := 44) (by decide +kernel) rfl, gd_of (i := 421) rfl rfl, by decide, by decide, by decide +kernel⟩, gd_of (i := 419) (by decide +kernel) rfl, gd_of (i := 420) (by decide +kernel) rfl⟩
set_option maxRecDepth 100000 in
theorem cv_RX0_25 : CV RX0 25 yX3_stands YQ_stands 0 := ⟨⟨Or.inl (gd_of (i := 763) (by decide +kernel) rfl), gd_of (i := 53) (by decide +kernel) rfl, gd_of (i := 425) rfl rfl, by decide, by decide, by decide +kernel⟩, gd_of (i := 423) (by decide +kernel) rfl, gd_of (i := 424) (by decide +kernel) rfl⟩
set_option maxRecDepth 100000 in
theorem cv_RX0_29 : CV RX0 29 yX3_isAhead YQ_isAhead 0 := ⟨⟨Or.inl (gd_of (i := 538) (by decide +kernel) rfl), gd_of (i := 53) (by decide +kernel) rfl, gd_of (i := 520) rfl rfl, by decide, by decide, by decide +kernel⟩, gd_of (i := 518) (by decide +kernel) rfl, gd_of (i := 519) (by decide +kernel) rfl⟩
set_option maxRecDepth 100000 in
theorem cv_RX0_32 : CV RX0 32 yX3_covers YQ_covers 1 := ⟨⟨Or.inl (gd_of (i := 539) (by decide +kernel) rfl), gd_of (i := 53) (by decide +kernel) rfl, gd_of (i := 429) rfl rfl, by decide, by decide, by decide +kernel⟩, gd_of (i := 427) (by decide +kernel) rfl, gd_of (i := 428) (by decide +kernel) rfl⟩
set_option maxRecDepth 100000 in
theorem cv_RX0_39 : CV RX0 39 yX3_spotIn YQ_spotIn 1 := ⟨⟨Or.inl (gd_of (i := 623) (by decide +kernel) rfl), gd_of (i := 53) (by decide +kernel) rfl, gd_of (i := 581) rfl rfl, by decide, by decide, by decide +kernel⟩, gd_of (i := 579) (by decide +kernel) rfl, gd_of (i := 580) (by decide +kernel) rfl⟩
set_option maxRecDepth 100000 in
theorem cv_RX1_25 : CV RX1 25 yX1_roomAt YH_roomAt 1 := ⟨⟨Or.inl (gd_of (i := 329) (by decide +kernel) rfl), gd_of (i := 43) (by decide +kernel) rfl, gd_of (i := 288) rfl rfl, by decide, by decide, by decide +kernel⟩, gd_of (i := 286) (by decide +kernel) rfl, gd_of (i := 287) (by decide +kernel) rfl⟩
set_option maxRecDepth 100000 in
theorem cv_RX1_39 : CV RX1 39 yX4_isOpen YR_isOpen 1 := ⟨⟨Or.inl (gd_of (i := 665) (by decide +kernel) rfl), gd_of (i := 49) (by decide +kernel) rfl, gd_of (i := 408) rfl rfl, by decide, by decide, by decide +kernel⟩, gd_of (i := 406) (by decide +kernel) rfl, gd_of (i := 407) (by decide +kernel) rfl⟩
set_option maxRecDepth 100000 in
theorem cv_RX1_42 : CV RX1 42 yX4_units YR_units 0 := ⟨⟨Or.inl (gd_of (i := 666) (by decide +kernel) rfl), gd_of (i := 49) (by decide +kernel) rfl, gd_of (i := 413) rfl rfl, by decide, by decide, by decide +kernel⟩, gd_of (i := 411) (by decide +kernel) rfl, gd_of (i := 412) (by decide +kernel) rfl⟩
set_option maxRecDepth 100000 in
theorem cv_RX2_100 : CV RX2 100 yX7_take YV_take 2 := ⟨⟨Or.inl (gd_of (i := 582) (by decide +kernel) rfl), gd_of (i := 45) (by decide +kernel) rfl, gd_of (i := 585) rfl rfl, by decide, by decide, by decide +kernel⟩, gd_of (i := 583) (by decide +kernel) rfl, gd_of (i := 584) (by decide +kernel) rfl⟩
set_option maxRecDepth 100000 in
theorem cv_RX2_104 : CV RX2 104 yX1_roomAt YH_roomAt 1 := ⟨⟨Or.inl (gd_of (i := 606) (by decide +kernel) rfl), gd_of (i := 43) (by decide +kernel) rfl, gd_of (i := 288) rfl rfl, by decide, by decide, by decide +kernel⟩, gd_of (i := 286) (by decide +kernel) rfl, gd_of (i := 287) (by decide +kernel) rfl⟩
set_option maxRecDepth 100000 in
theorem cv_RX2_119 : CV RX2 119 yX4_suits YR_suits 1 := ⟨⟨Or.inl (gd_of (i := 614) (by decide +kernel) rfl), gd_of (i := 49) (by decide +kernel) rfl, gd_of (i := 617) rfl rfl, by decide, by decide, by decide +kernel⟩, gd_of (i := 615) (by decide +kernel) rfl, gd_of (i := 616) (by decide +kernel) rfl⟩
set_option maxRecDepth 100000 in
theorem cv_RX2_122 : CV RX2 122 yX4_units YR_units 0 := ⟨⟨Or.inl (gd_of (i := 618) (by decide +kernel) rfl), gd_of (i := 49) (by decide +kernel) rfl, gd_of (i := 413) rfl rfl, by decide, by decide, by decide +kernel⟩, gd_of (i := 411) (by decide +kernel) rfl, gd_of (i := 412) (by decide +kernel) rfl⟩
set_option maxRecDepth 100000 in
theorem cv_RX2_33 : CV RX2 33 yX2_gather YP_gather 1 := ⟨⟨Or.inl (gd_of (i := 548) (by decide +kernel) rfl), gd_of (i := 46) (by decide +kernel) rfl, gd_of (i := 551) rfl rfl, by decide, by decide, by decide +kernel⟩, gd_of (i := 550) (by decide +kernel) rfl, gd_of (i := 12) (by decide +kernel) rfl⟩
set_option maxRecDepth 100000 in
theorem cv_RX2_41 : CV RX2 41 yX7_begin YV_begin 1 := ⟨⟨Or.inl (gd_of (i := 560) (by decide +kernel) rfl), gd_of (i := 45) (by decide +kernel) rfl, gd_of (i := 400) rfl rfl, by decide, by decide, by decide +kernel⟩, gd_of (i := 398) (by decide +kernel) rfl, gd_of (i := 399) (by decide +kernel) rfl⟩
set_option maxRecDepth 100000 in
theorem cv_RX2_46 : CV RX2 46 yX2_keepThose YP_keepThose 1 := ⟨⟨Or.inl (gd_of (i := 561) (by decide +kernel) rfl), gd_of (i := 46) (by decide +kernel) rfl, gd_of (i := 564) rfl rfl, by decide, by decide, by decide +kernel⟩, gd_of (i := 563) (by decide +kernel) rfl, gd_of (i := 13) (by decide +kernel) rfl⟩
set_option maxRecDepth 100000 in
theorem cv_RX2_49 : CV RX2 49 yX2_spotAgain YP_spotAgain 2 := ⟨⟨Or.inl (gd_of (i := 574) (by decide +kernel) rfl), gd_of (i := 46) (by decide +kernel) rfl, gd_of (i := 577) rfl rfl, by decide, by decide, by decide +kernel⟩, gd_of (i := 576) (by decide +kernel) rfl, gd_of (i := 14) (by decide +kernel) rfl⟩
set_option maxRecDepth 100000 in
theorem cv_RX2_53 : CV RX2 53 yX3_setSpot YQ_setSpot 2 := ⟨⟨Or.inl (gd_of (i := 553) (by decide +kernel) rfl), gd_of (i := 53) (by decide +kernel) rfl, gd_of (i := 556) rfl rfl, by decide, by decide, by decide +kernel⟩, gd_of (i := 554) (by decide +kernel) rfl, gd_of (i := 555) (by decide +kernel) rfl⟩
set_option maxRecDepth 100000 in
theorem cv_RX2_57 : CV RX2 57 yX3_spotIn YQ_spotIn 1 := ⟨⟨Or.inl (gd_of (i := 578) (by decide +kernel) rfl), gd_of (i := 53) (by decide +kernel) rfl, gd_of (i := 581) rfl rfl, by decide, by decide, by decide +kernel⟩, gd_of (i := 579) (by decide +kernel) rfl, gd_of (i := 580) (by decide +kernel) rfl⟩
set_option maxRecDepth 100000 in
theorem cv_RX2_64 : CV RX2 64 yX2_firstSuite YP_firstSuite 0 := ⟨⟨Or.inl (gd_of (i := 602) (by decide +kernel) rfl), gd_of (i := 46) (by decide +kernel) rfl, gd_of (i := 605) rfl rfl, by decide, by decide, by decide +kernel⟩, gd_of (i := 604) (by decide +kernel) rfl, gd_of (i := 16) (by decide +kernel) rfl⟩
set_option maxRecDepth 100000 in
theorem cv_RX2_68 : CV RX2 68 yX2_firstUnit YP_firstUnit 1 := ⟨⟨Or.inl (gd_of (i := 610) (by decide +kernel) rfl), gd_of (i := 46) (by decide +kernel) rfl, gd_of (i := 613) rfl rfl, by decide, by decide, by decide +kernel⟩, gd_of (i := 612) (by decide +kernel) rfl, gd_of (i := 17) (by decide +kernel) rfl⟩
set_option maxRecDepth 100000 in
theorem cv_RX2_76 : CV RX2 76 yX0_at YB_at 1 := ⟨⟨Or.inl (gd_of (i := 552) (by decide +kernel) rfl), gd_of (i := 44) (by decide +kernel) rfl, gd_of (i := 421) rfl rfl, by decide, by decide, by decide +kernel⟩, gd_of (i := 419) (by decide +kernel) rfl, gd_of (i := 420) (by decide +kernel) rfl⟩
set_option maxRecDepth 100000 in
theorem cv_RX2_80 : CV RX2 80 yX3_stands YQ_stands 0 := ⟨⟨Or.inl (gd_of (i := 558) (by decide +kernel) rfl), gd_of (i := 53) (by decide +kernel) rfl, gd_of (i := 425) rfl rfl, by decide, by decide, by decide +kernel⟩, gd_of (i := 423) (by decide +kernel) rfl, gd_of (i := 424) (by decide +kernel) rfl⟩
set_option maxRecDepth 100000 in
theorem cv_RX2_84 : CV RX2 84 yX3_covers YQ_covers 1 := ⟨⟨Or.inl (gd_of (i := 559) (by decide +kernel) rfl), gd_of (i := 53) (by decide +kernel) rfl, gd_of (i := 429) rfl rfl, by decide, by decide, by decide +kernel⟩, gd_of (i := 427) (by decide +kernel) rfl, gd_of (i := 428) (by decide +kernel) rfl⟩
set_option maxRecDepth 100000 in
theorem cv_RX2_91 : CV RX2 91 yX7_addNeed YV_addNeed 1 := ⟨⟨Or.inl (gd_of (i := 565) (by decide +kernel) rfl), gd_of (i := 45) (by decide +kernel) rfl, gd_of (i := 433) rfl rfl, by decide, by decide, by decide +kernel⟩, gd_of (i := 431) (by decide +kernel) rfl, gd_of (i := 432) (by decide +kernel) rfl⟩
set_option maxRecDepth 100000 in
theorem cv_RX2_94 : CV RX2 94 yX7_fits YV_fits 0 := ⟨⟨Or.inl (gd_of (i := 566) (by decide +kernel) rfl), gd_of (i := 45) (by decide +kernel) rfl, gd_of (i := 569) rfl rfl, by decide, by decide, by decide +kernel⟩, gd_of (i := 567) (by decide +kernel) rfl, gd_of (i := 568) (by decide +kernel) rfl⟩
set_option maxRecDepth 100000 in
theorem cv_RX2_97 : CV RX2 97 yX7_dropNeed YV_dropNeed 1 := ⟨⟨Or.inl (gd_of (i := 570) (by decide +kernel) rfl), gd_of (i := 45) (by decide +kernel) rfl, gd_of (i := 573) rfl rfl, by decide, by decide, by decide +kernel⟩, gd_of (i := 571) (by decide +kernel) rfl, gd_of (i := 572) (by decide +kernel) rfl⟩
set_option maxRecDepth 100000 in
theorem cv_RX3_48 : CV RX3 48 yX3_spotIn YQ_spotIn 1 := ⟨⟨Or.inl (gd_of (i := 641) (by decide +kernel) rfl), gd_of (i := 53) (by decide +kernel) rfl, gd_of (i := 581) rfl rfl, by decide, by decide, by decide +kernel⟩, gd_of (i := 579) (by decide +kernel) rfl, gd_of (i := 580) (by decide +kernel) rfl⟩
set_option maxRecDepth 100000 in
theorem cv_RX4_35 : CV RX4 35 yX4_stateIn YR_stateIn 1 := ⟨⟨Or.inl (gd_of (i := 409) (by decide +kernel) rfl), gd_of (i := 49) (by decide +kernel) rfl, gd_of (i := 340) rfl rfl, by decide, by decide, by decide +kernel⟩, gd_of (i := 338) (by decide +kernel) rfl, gd_of (i := 339) (by decide +kernel) rfl⟩
set_option maxRecDepth 100000 in
theorem cv_RX6_55 : CV RX6 55 yX5_forbidsEnd YU_forbidsEnd 1 := ⟨⟨Or.inl (gd_of (i := 374) (by decide +kernel) rfl), gd_of (i := 59) (by decide +kernel) rfl, gd_of (i := 377) rfl rfl, by decide, by decide, by decide +kernel⟩, gd_of (i := 375) (by decide +kernel) rfl, gd_of (i := 376) (by decide +kernel) rfl⟩
set_option maxRecDepth 100000 in
theorem cv_RX6_58 : CV RX6 58 yX5_percentageOf YU_percentageOf 2 := ⟨⟨Or.inl (gd_of (i := 386) (by decide +kernel) rfl), gd_of (i := 59) (by decide +kernel) rfl, gd_of (i := 389) rfl rfl, by decide, by decide, by decide +kernel⟩, gd_of (i := 387) (by decide +kernel) rfl, gd_of (i := 388) (by decide +kernel) rfl⟩
set_option maxRecDepth 100000 in
theorem cv_RX6_67 : CV RX6 67 yX6_mayEnd YT_mayEnd 1 := ⟨⟨Or.inl (gd_of (i := 370) (by decide +kernel) rfl), gd_of (i := 47) (by decide +kernel) rfl, gd_of (i := 373) rfl rfl, by decide, by decide, by decide +kernel⟩, gd_of (i := 372) (by decide +kernel) rfl, gd_of (i := 4) (by decide +kernel) rfl⟩
set_option maxRecDepth 100000 in
theorem cv_RX6_72 : CV RX6 72 yX6_costBy YT_costBy 3 := ⟨⟨Or.inl (gd_of (i := 382) (by decide +kernel) rfl), gd_of (i := 47) (by decide +kernel) rfl, gd_of (i := 385) rfl rfl, by decide, by decide, by decide +kernel⟩, gd_of (i := 384) (by decide +kernel) rfl, gd_of (i := 6) (by decide +kernel) rfl⟩
set_option maxRecDepth 100000 in
theorem cv_RX6_76 : CV RX6 76 yX6_search YT_search 4 := ⟨⟨Or.inl (gd_of (i := 363) (by decide +kernel) rfl), gd_of (i := 47) (by decide +kernel) rfl, gd_of (i := 366) rfl rfl, by decide, by decide, by decide +kernel⟩, gd_of (i := 365) (by decide +kernel) rfl, gd_of (i := 3) (by decide +kernel) rfl⟩
set_option maxRecDepth 100000 in
theorem cv_RX6_80 : CV RX6 80 yX6_searchLastPart YT_searchLastPart 4 := ⟨⟨Or.inl (gd_of (i := 378) (by decide +kernel) rfl), gd_of (i := 47) (by decide +kernel) rfl, gd_of (i := 381) rfl rfl, by decide, by decide, by decide +kernel⟩, gd_of (i := 380) (by decide +kernel) rfl, gd_of (i := 5) (by decide +kernel) rfl⟩
set_option maxRecDepth 100000 in
theorem cv_RX7_35 : CV RX7 35 yX1_roomAt YH_roomAt 1 := ⟨⟨Or.inl (gd_of (i := 404) (by decide +kernel) rfl), gd_of (i := 43) (by decide +kernel) rfl, gd_of (i := 288) rfl rfl, by decide, by decide, by decide +kernel⟩, gd_of (i := 286) (by decide +kernel) rfl, gd_of (i := 287) (by decide +kernel) rfl⟩
set_option maxRecDepth 100000 in
theorem cv_RX7_41 : CV RX7 41 yX4_isOpen YR_isOpen 1 := ⟨⟨Or.inl (gd_of (i := 405) (by decide +kernel) rfl), gd_of (i := 49) (by decide +kernel) rfl, gd_of (i := 408) rfl rfl, by decide, by decide, by decide +kernel⟩, gd_of (i := 406) (by decide +kernel) rfl, gd_of (i := 407) (by decide +kernel) rfl⟩
set_option maxRecDepth 100000 in
theorem cv_RX7_47 : CV RX7 47 yX4_units YR_units 0 := ⟨⟨Or.inl (gd_of (i := 410) (by decide +kernel) rfl), gd_of (i := 49) (by decide +kernel) rfl, gd_of (i := 413) rfl rfl, by decide, by decide, by decide +kernel⟩, gd_of (i := 411) (by decide +kernel) rfl, gd_of (i := 412) (by decide +kernel) rfl⟩
set_option maxRecDepth 100000 in
theorem cv_RX7_57 : CV RX7 57 yX7_isFree YV_isFree 2 := ⟨⟨Or.inl (gd_of (i := 414) (by decide +kernel) rfl), gd_of (i := 45) (by decide +kernel) rfl, gd_of (i := 417) rfl rfl, by decide, by decide, by decide +kernel⟩, gd_of (i := 416) (by decide +kernel) rfl, gd_of (i := 8) (by decide +kernel) rfl⟩
set_option maxRecDepth 100000 in
theorem cv_RX7_70 : CV RX7 70 yX7_roomless YV_roomless 1 := ⟨⟨Or.inl (gd_of (i := 440) (by decide +kernel) rfl), gd_of (i := 45) (by decide +kernel) rfl, gd_of (i := 443) rfl rfl, by decide, by decide, by decide +kernel⟩, gd_of (i := 442) (by decide +kernel) rfl, gd_of (i := 9) (by decide +kernel) rfl⟩
set_option maxRecDepth 100000 in
theorem cv_RX7_86 : CV RX7 86 yX7_dropNeed YV_dropNeed 1 := ⟨⟨Or.inl (gd_of (i := 595) (by decide +kernel) rfl), gd_of (i := 45) (by decide +kernel) rfl, gd_of (i := 573) rfl rfl, by decide, by decide, by decide +kernel⟩, gd_of (i := 571) (by decide +kernel) rfl, gd_of (i := 572) (by decide +kernel) rfl⟩
set_option maxRecDepth 100000 in
theorem cv_RX7_90 : CV RX7 90 yX7_turn YV_turn 3 := ⟨⟨Or.inl (gd_of (i := 596) (by decide +kernel) rfl), gd_of (i := 45) (by decide +kernel) rfl, gd_of (i := 599) rfl rfl, by decide, by decide, by decide +kernel⟩, gd_of (i := 598) (by decide +kernel) rfl, gd_of (i := 15) (by decide +kernel) rfl⟩
set_option maxRecDepth 100000 in
theorem cv_RX7_94 : CV RX7 94 yX7_fits YV_fits 0 := ⟨⟨Or.inl (gd_of (i := 600) (by decide +kernel) rfl), gd_of (i := 45) (by decide +kernel) rfl, gd_of (i := 569) rfl rfl, by decide, by decide, by decide +kernel⟩, gd_of (i := 567) (by decide +kernel) rfl, gd_of (i := 568) (by decide +kernel) rfl⟩
set_option maxRecDepth 100000 in
theorem cv_RX7_98 : CV RX7 98 yX7_addNeed YV_addNeed 1 := ⟨⟨Or.inl (gd_of (i := 601) (by decide +kernel) rfl), gd_of (i := 45) (by decide +kernel) rfl, gd_of (i := 433) rfl rfl, by decide, by decide, by decide +kernel⟩, gd_of (i := 431) (by decide +kernel) rfl, gd_of (i := 432) (by decide +kernel) rfl⟩
set_option maxRecDepth 100000 in
theorem cv_RX8_113 : CV RX8 113 yX4_stateIn YR_stateIn 1 := ⟨⟨Or.inl (gd_of (i := 337) (by decide +kernel) rfl), gd_of (i := 49) (by decide +kernel) rfl, gd_of (i := 340) rfl rfl, by decide, by decide, by decide +kernel⟩, gd_of (i := 338) (by decide +kernel) rfl, gd_of (i := 339) (by decide +kernel) rfl⟩
set_option maxRecDepth 100000 in
theorem cv_RX8_116 : CV RX8 116 yX8_refusalOf YG_refusalOf 5 := ⟨⟨Or.inl (gd_of (i := 345) (by decide +kernel) rfl), gd_of (i := 42) (by decide +kernel) rfl, gd_of (i := 348) rfl rfl, by decide, by decide, by decide +kernel⟩, gd_of (i := 347) (by decide +kernel) rfl, gd_of (i := 1) (by decide +kernel) rfl⟩
set_option maxRecDepth 100000 in
theorem cv_RX8_128 : CV RX8 128 yX6_leastCost YT_leastCost 4 := ⟨⟨Or.inl (gd_of (i := 359) (by decide +kernel) rfl), gd_of (i := 47) (by decide +kernel) rfl, gd_of (i := 362) rfl rfl, by decide, by decide, by decide +kernel⟩, gd_of (i := 360) (by decide +kernel) rfl, gd_of (i := 361) (by decide +kernel) rfl⟩
set_option maxRecDepth 100000 in
theorem cv_RX8_132 : CV RX8 132 yX3_setNights YQ_setNights 3 := ⟨⟨Or.inl (gd_of (i := 497) (by decide +kernel) rfl), gd_of (i := 53) (by decide +kernel) rfl, gd_of (i := 500) rfl rfl, by decide, by decide, by decide +kernel⟩, gd_of (i := 498) (by decide +kernel) rfl, gd_of (i := 499) (by decide +kernel) rfl⟩
set_option maxRecDepth 100000 in
theorem cv_RX8_136 : CV RX8 136 yX0_enter YB_enter 1 := ⟨⟨Or.inl (gd_of (i := 501) (by decide +kernel) rfl), gd_of (i := 44) (by decide +kernel) rfl, gd_of (i := 504) rfl rfl, by decide, by decide, by decide +kernel⟩, gd_of (i := 502) (by decide +kernel) rfl, gd_of (i := 503) (by decide +kernel) rfl⟩
set_option maxRecDepth 100000 in
theorem cv_RX8_140 : CV RX8 140 yX0_at YB_at 1 := ⟨⟨Or.inl (gd_of (i := 418) (by decide +kernel) rfl), gd_of (i := 44) (by decide +kernel) rfl, gd_of (i := 421) rfl rfl, by decide, by decide, by decide +kernel⟩, gd_of (i := 419) (by decide +kernel) rfl, gd_of (i := 420) (by decide +kernel) rfl⟩
set_option maxRecDepth 100000 in
theorem cv_RX8_147 : CV RX8 147 yX8_setState YG_setState 2 := ⟨⟨Or.inl (gd_of (i := 509) (by decide +kernel) rfl), gd_of (i := 42) (by decide +kernel) rfl, gd_of (i := 512) rfl rfl, by decide, by decide, by decide +kernel⟩, gd_of (i := 511) (by decide +kernel) rfl, gd_of (i := 10) (by decide +kernel) rfl⟩
set_option maxRecDepth 100000 in
theorem cv_RX8_151 : CV RX8 151 yX3_isAhead YQ_isAhead 0 := ⟨⟨Or.inl (gd_of (i := 517) (by decide +kernel) rfl), gd_of (i := 53) (by decide +kernel) rfl, gd_of (i := 520) rfl rfl, by decide, by decide, by decide +kernel⟩, gd_of (i := 518) (by decide +kernel) rfl, gd_of (i := 519) (by decide +kernel) rfl⟩
set_option maxRecDepth 100000 in
theorem cv_RX8_164 : CV RX8 164 yX0_missNight YB_missNight 1 := ⟨⟨Or.inl (gd_of (i := 533) (by decide +kernel) rfl), gd_of (i := 44) (by decide +kernel) rfl, gd_of (i := 536) rfl rfl, by decide, by decide, by decide +kernel⟩, gd_of (i := 534) (by decide +kernel) rfl, gd_of (i := 535) (by decide +kernel) rfl⟩
set_option maxRecDepth 100000 in
theorem cv_RX8_167 : CV RX8 167 yX8_planUpTo YG_planUpTo 1 := ⟨⟨Or.inl (gd_of (i := 540) (by decide +kernel) rfl), gd_of (i := 42) (by decide +kernel) rfl, gd_of (i := 543) rfl rfl, by decide, by decide, by decide +kernel⟩, gd_of (i := 542) (by decide +kernel) rfl, gd_of (i := 11) (by decide +kernel) rfl⟩
set_option maxRecDepth 100000 in
theorem cv_RX8_170 : CV RX8 170 yX0_walkFrom YB_walkFrom 1 := ⟨⟨Or.inl (gd_of (i := 619) (by decide +kernel) rfl), gd_of (i := 44) (by decide +kernel) rfl, gd_of (i := 622) rfl rfl, by decide, by decide, by decide +kernel⟩, gd_of (i := 620) (by decide +kernel) rfl, gd_of (i := 621) (by decide +kernel) rfl⟩
set_option maxRecDepth 100000 in
theorem cv_RX8_173 : CV RX8 173 yX0_turnTo YB_turnTo 1 := ⟨⟨Or.inl (gd_of (i := 624) (by decide +kernel) rfl), gd_of (i := 44) (by decide +kernel) rfl, gd_of (i := 627) rfl rfl, by decide, by decide, by decide +kernel⟩, gd_of (i := 625) (by decide +kernel) rfl, gd_of (i := 626) (by decide +kernel) rfl⟩
set_option maxRecDepth 100000 in
theorem cv_RX8_196 : CV RX8 196 yX3_nightsHad YQ_nightsHad 1 := ⟨⟨Or.inl (gd_of (i := 842) (by decide +kernel) rfl), gd_of (i := 53) (by decide +kernel) rfl, gd_of (i := 845) rfl rfl, by decide, by decide, by decide +kernel⟩, gd_of (i := 843) (by decide +kernel) rfl, gd_of (i := 844) (by decide +kernel) rfl⟩
set_option maxRecDepth 100000 in
theorem cv_RX8_199 : CV RX8 199 yX3_movesIn YQ_movesIn 2 := ⟨⟨Or.inl (gd_of (i := 637) (by decide +kernel) rfl), gd_of (i := 53) (by decide +kernel) rfl, gd_of (i := 640) rfl rfl, by decide, by decide, by decide +kernel⟩, gd_of (i := 638) (by decide +kernel) rfl, gd_of (i := 639) (by decide +kernel) rfl⟩
set_option maxRecDepth 100000 in
theorem cv_RX8_205 : CV RX8 205 yX3_spotIn YQ_spotIn 1 := ⟨⟨Or.inl (gd_of (i := 632) (by decide +kernel) rfl), gd_of (i := 53) (by decide +kernel) rfl, gd_of (i := 581) rfl rfl, by decide, by decide, by decide +kernel⟩, gd_of (i := 579) (by decide +kernel) rfl, gd_of (i := 580) (by decide +kernel) rfl⟩
set_option maxRecDepth 100000 in
theorem cv_RX8_224 : CV RX8 224 yX8_shortOf YG_shortOf 3 := ⟨⟨Or.inl (gd_of (i := 393) (by decide +kernel) rfl), gd_of (i := 42) (by decide +kernel) rfl, gd_of (i := 396) rfl rfl, by decide, by decide, by decide +kernel⟩, gd_of (i := 395) (by decide +kernel) rfl, gd_of (i := 7) (by decide +kernel) rfl⟩
set_option maxRecDepth 100000 in
theorem cv_RX8_228 : CV RX8 228 yX1_openUnits YH_openUnits 2 := ⟨⟨Or.inl (gd_of (i := 661) (by decide +kernel) rfl), gd_of (i := 43) (by decide +kernel) rfl, gd_of (i := 664) rfl rfl, by decide, by decide, by decide +kernel⟩, gd_of (i := 662) (by decide +kernel) rfl, gd_of (i := 663) (by decide +kernel) rfl⟩
set_option maxRecDepth 100000 in
theorem cv_RX8_231 : CV RX8 231 yX8_takenUnits YG_takenUnits 2 := ⟨⟨Or.inl (gd_of (i := 667) (by decide +kernel) rfl), gd_of (i := 42) (by decide +kernel) rfl, gd_of (i := 670) rfl rfl, by decide, by decide, by decide +kernel⟩, gd_of (i := 669) (by decide +kernel) rfl, gd_of (i := 18) (by decide +kernel) rfl⟩
set_option maxRecDepth 100000 in
theorem cv_RX8_241 : CV RX8 241 yX6_setAmount YT_setAmount 4 := ⟨⟨Or.inl (gd_of (i := 685) (by decide +kernel) rfl), gd_of (i := 47) (by decide +kernel) rfl, gd_of (i := 688) rfl rfl, by decide, by decide, by decide +kernel⟩, gd_of (i := 686) (by decide +kernel) rfl, gd_of (i := 687) (by decide +kernel) rfl⟩
set_option maxRecDepth 100000 in
theorem cv_RX8_244 : CV RX8 244 yX6_addRule YT_addRule 3 := ⟨⟨Or.inl (gd_of (i := 693) (by decide +kernel) rfl), gd_of (i := 47) (by decide +kernel) rfl, gd_of (i := 696) rfl rfl, by decide, by decide, by decide +kernel⟩, gd_of (i := 694) (by decide +kernel) rfl, gd_of (i := 695) (by decide +kernel) rfl⟩
set_option maxRecDepth 100000 in
theorem cv_RX8_247 : CV RX8 247 yX6_endRule YT_endRule 1 := ⟨⟨Or.inl (gd_of (i := 723) (by decide +kernel) rfl), gd_of (i := 47) (by decide +kernel) rfl, gd_of (i := 726) rfl rfl, by decide, by decide, by decide +kernel⟩, gd_of (i := 724) (by decide +kernel) rfl, gd_of (i := 725) (by decide +kernel) rfl⟩
set_option maxRecDepth 100000 in
theorem cv_RX8_250 : CV RX8 250 yX8_isWish YG_isWish 3 := ⟨⟨Or.inl (gd_of (i := 349) (by decide +kernel) rfl), gd_of (i := 42) (by decide +kernel) rfl, gd_of (i := 352) rfl rfl, by decide, by decide, by decide +kernel⟩, gd_of (i := 351) (by decide +kernel) rfl, gd_of (i := 2) (by decide +kernel) rfl⟩
set_option maxRecDepth 100000 in
theorem cv_RX8_254 : CV RX8 254 yX6_costOf YT_costOf 4 := ⟨⟨Or.inl (gd_of (i := 731) (by decide +kernel) rfl), gd_of (i := 47) (by decide +kernel) rfl, gd_of (i := 734) rfl rfl, by decide, by decide, by decide +kernel⟩, gd_of (i := 732) (by decide +kernel) rfl, gd_of (i := 733) (by decide +kernel) rfl⟩
set_option maxRecDepth 100000 in
theorem cv_RX8_259 : CV RX8 259 yX6_leastParts YT_leastParts 4 := ⟨⟨Or.inl (gd_of (i := 739) (by decide +kernel) rfl), gd_of (i := 47) (by decide +kernel) rfl, gd_of (i := 742) rfl rfl, by decide, by decide, by decide +kernel⟩, gd_of (i := 740) (by decide +kernel) rfl, gd_of (i := 741) (by decide +kernel) rfl⟩
set_option maxRecDepth 100000 in
theorem cv_RX8_263 : CV RX8 263 yX1_roomCount YH_roomCount 0 := ⟨⟨Or.inl (gd_of (i := 747) (by decide +kernel) rfl), gd_of (i := 43) (by decide +kernel) rfl, gd_of (i := 750) rfl rfl, by decide, by decide, by decide +kernel⟩, gd_of (i := 748) (by decide +kernel) rfl, gd_of (i := 749) (by decide +kernel) rfl⟩
set_option maxRecDepth 100000 in
theorem cv_RX8_267 : CV RX8 267 yX1_storeCount YH_storeCount 0 := ⟨⟨Or.inl (gd_of (i := 751) (by decide +kernel) rfl), gd_of (i := 43) (by decide +kernel) rfl, gd_of (i := 754) rfl rfl, by decide, by decide, by decide +kernel⟩, gd_of (i := 752) (by decide +kernel) rfl, gd_of (i := 753) (by decide +kernel) rfl⟩
set_option maxRecDepth 100000 in
theorem cv_RX8_270 : CV RX8 270 yX1_doorCount YH_doorCount 0 := ⟨⟨Or.inl (gd_of (i := 755) (by decide +kernel) rfl), gd_of (i := 43) (by decide +kernel) rfl, gd_of (i := 758) rfl rfl, by decide, by decide, by decide +kernel⟩, gd_of (i := 756) (by decide +kernel) rfl, gd_of (i := 757) (by decide +kernel) rfl⟩
set_option maxRecDepth 100000 in
theorem cv_RX8_273 : CV RX8 273 yX0_standingCount YB_standingCount 0 := ⟨⟨Or.inl (gd_of (i := 759) (by decide +kernel) rfl), gd_of (i := 44) (by decide +kernel) rfl, gd_of (i := 762) rfl rfl, by decide, by decide, by decide +kernel⟩, gd_of (i := 760) (by decide +kernel) rfl, gd_of (i := 761) (by decide +kernel) rfl⟩
set_option maxRecDepth 100000 in
theorem cv_RX8_276 : CV RX8 276 yX6_heldRules YT_heldRules 0 := ⟨⟨Or.inl (gd_of (i := 764) (by decide +kernel) rfl), gd_of (i := 47) (by decide +kernel) rfl, gd_of (i := 767) rfl rfl, by decide, by decide, by decide +kernel⟩, gd_of (i := 765) (by decide +kernel) rfl, gd_of (i := 766) (by decide +kernel) rfl⟩
set_option maxRecDepth 100000 in
theorem cv_RX8_282 : CV RX8 282 yX0_isFull YB_isFull 0 := ⟨⟨Or.inl (gd_of (i := 445) (by decide +kernel) rfl), gd_of (i := 44) (by decide +kernel) rfl, gd_of (i := 448) rfl rfl, by decide, by decide, by decide +kernel⟩, gd_of (i := 446) (by decide +kernel) rfl, gd_of (i := 447) (by decide +kernel) rfl⟩
set_option maxRecDepth 100000 in
theorem cv_RX8_285 : CV RX8 285 yX7_begin YV_begin 1 := ⟨⟨Or.inl (gd_of (i := 397) (by decide +kernel) rfl), gd_of (i := 45) (by decide +kernel) rfl, gd_of (i := 400) rfl rfl, by decide, by decide, by decide +kernel⟩, gd_of (i := 398) (by decide +kernel) rfl, gd_of (i := 399) (by decide +kernel) rfl⟩
set_option maxRecDepth 100000 in
theorem cv_RX8_288 : CV RX8 288 yX3_stands YQ_stands 0 := ⟨⟨Or.inl (gd_of (i := 422) (by decide +kernel) rfl), gd_of (i := 53) (by decide +kernel) rfl, gd_of (i := 425) rfl rfl, by decide, by decide, by decide +kernel⟩, gd_of (i := 423) (by decide +kernel) rfl, gd_of (i := 424) (by decide +kernel) rfl⟩
set_option maxRecDepth 100000 in
theorem cv_RX8_291 : CV RX8 291 yX3_covers YQ_covers 1 := ⟨⟨Or.inl (gd_of (i := 426) (by decide +kernel) rfl), gd_of (i := 53) (by decide +kernel) rfl, gd_of (i := 429) rfl rfl, by decide, by decide, by decide +kernel⟩, gd_of (i := 427) (by decide +kernel) rfl, gd_of (i := 428) (by decide +kernel) rfl⟩
set_option maxRecDepth 100000 in
theorem cv_RX8_294 : CV RX8 294 yX7_addNeed YV_addNeed 1 := ⟨⟨Or.inl (gd_of (i := 430) (by decide +kernel) rfl), gd_of (i := 45) (by decide +kernel) rfl, gd_of (i := 433) rfl rfl, by decide, by decide, by decide +kernel⟩, gd_of (i := 431) (by decide +kernel) rfl, gd_of (i := 432) (by decide +kernel) rfl⟩
set_option maxRecDepth 100000 in
theorem cv_RX8_297 : CV RX8 297 yX7_shortage YV_shortage 0 := ⟨⟨Or.inl (gd_of (i := 435) (by decide +kernel) rfl), gd_of (i := 45) (by decide +kernel) rfl, gd_of (i := 438) rfl rfl, by decide, by decide, by decide +kernel⟩, gd_of (i := 436) (by decide +kernel) rfl, gd_of (i := 437) (by decide +kernel) rfl⟩
set_option maxRecDepth 100000 in
theorem cv_RX8_303 : CV RX8 303 yX2_makeNight YP_makeNight 1 := ⟨⟨Or.inl (gd_of (i := 544) (by decide +kernel) rfl), gd_of (i := 46) (by decide +kernel) rfl, gd_of (i := 547) rfl rfl, by decide, by decide, by decide +kernel⟩, gd_of (i := 545) (by decide +kernel) rfl, gd_of (i := 546) (by decide +kernel) rfl⟩
set_option maxRecDepth 100000 in
theorem cv_RX8_306 : CV RX8 306 yX1_isOpenOfKind YH_isOpenOfKind 3 := ⟨⟨Or.inl (gd_of (i := 671) (by decide +kernel) rfl), gd_of (i := 43) (by decide +kernel) rfl, gd_of (i := 674) rfl rfl, by decide, by decide, by decide +kernel⟩, gd_of (i := 672) (by decide +kernel) rfl, gd_of (i := 673) (by decide +kernel) rfl⟩
set_option maxRecDepth 100000 in
theorem cv_RX8_48 : CV RX8 48 yX1_isEmpty YH_isEmpty 1 := ⟨⟨Or.inl (gd_of (i := 206) (by decide +kernel) rfl), gd_of (i := 43) (by decide +kernel) rfl, gd_of (i := 209) rfl rfl, by decide, by decide, by decide +kernel⟩, gd_of (i := 207) (by decide +kernel) rfl, gd_of (i := 208) (by decide +kernel) rfl⟩
set_option maxRecDepth 100000 in
theorem cv_RX8_57 : CV RX8 57 yX1_putRoom YH_putRoom 2 := ⟨⟨Or.inl (gd_of (i := 251) (by decide +kernel) rfl), gd_of (i := 43) (by decide +kernel) rfl, gd_of (i := 254) rfl rfl, by decide, by decide, by decide +kernel⟩, gd_of (i := 252) (by decide +kernel) rfl, gd_of (i := 253) (by decide +kernel) rfl⟩
set_option maxRecDepth 100000 in
theorem cv_RX8_61 : CV RX8 61 yX8_replanFrom YG_replanFrom 1 := ⟨⟨Or.inl (gd_of (i := 255) (by decide +kernel) rfl), gd_of (i := 42) (by decide +kernel) rfl, gd_of (i := 258) rfl rfl, by decide, by decide, by decide +kernel⟩, gd_of (i := 257) (by decide +kernel) rfl, gd_of (i := 0) (by decide +kernel) rfl⟩
set_option maxRecDepth 100000 in
theorem cv_RX8_65 : CV RX8 65 yX1_putStore YH_putStore 1 := ⟨⟨Or.inl (gd_of (i := 269) (by decide +kernel) rfl), gd_of (i := 43) (by decide +kernel) rfl, gd_of (i := 272) rfl rfl, by decide, by decide, by decide +kernel⟩, gd_of (i := 270) (by decide +kernel) rfl, gd_of (i := 271) (by decide +kernel) rfl⟩
set_option maxRecDepth 100000 in
theorem cv_RX8_68 : CV RX8 68 yX1_join YH_join 1 := ⟨⟨Or.inl (gd_of (i := 277) (by decide +kernel) rfl), gd_of (i := 43) (by decide +kernel) rfl, gd_of (i := 280) rfl rfl, by decide, by decide, by decide +kernel⟩, gd_of (i := 278) (by decide +kernel) rfl, gd_of (i := 279) (by decide +kernel) rfl⟩
set_option maxRecDepth 100000 in
theorem cv_RX8_71 : CV RX8 71 yX1_roomAt YH_roomAt 1 := ⟨⟨Or.inl (gd_of (i := 285) (by decide +kernel) rfl), gd_of (i := 43) (by decide +kernel) rfl, gd_of (i := 288) rfl rfl, by decide, by decide, by decide +kernel⟩, gd_of (i := 286) (by decide +kernel) rfl, gd_of (i := 287) (by decide +kernel) rfl⟩
set_option maxRecDepth 100000 in
theorem cv_RX8_83 : CV RX8 83 yX4_setShut YR_setShut 3 := ⟨⟨Or.inl (gd_of (i := 292) (by decide +kernel) rfl), gd_of (i := 49) (by decide +kernel) rfl, gd_of (i := 295) rfl rfl, by decide, by decide, by decide +kernel⟩, gd_of (i := 293) (by decide +kernel) rfl, gd_of (i := 294) (by decide +kernel) rfl⟩
set_option maxRecDepth 100000 in
theorem cv_RX8_87 : CV RX8 87 yX4_lengthen YR_lengthen 1 := ⟨⟨Or.inl (gd_of (i := 308) (by decide +kernel) rfl), gd_of (i := 49) (by decide +kernel) rfl, gd_of (i := 311) rfl rfl, by decide, by decide, by decide +kernel⟩, gd_of (i := 309) (by decide +kernel) rfl, gd_of (i := 310) (by decide +kernel) rfl⟩
set_option maxRecDepth 100000 in
theorem cv_RX8_91 : CV RX8 91 yX4_closeAltogether YR_closeAltogether 0 := ⟨⟨Or.inl (gd_of (i := 316) (by decide +kernel) rfl), gd_of (i := 49) (by decide +kernel) rfl, gd_of (i := 319) rfl rfl, by decide, by decide, by decide +kernel⟩, gd_of (i := 317) (by decide +kernel) rfl, gd_of (i := 318) (by decide +kernel) rfl⟩
set_option maxRecDepth 100000 in
theorem cv_RX8_97 : CV RX8 97 yX1_kindAt YH_kindAt 1 := ⟨⟨Or.inl (gd_of (i := 325) (by decide +kernel) rfl), gd_of (i := 43) (by decide +kernel) rfl, gd_of (i := 328) rfl rfl, by decide, by decide, by decide +kernel⟩, gd_of (i := 326) (by decide +kernel) rfl, gd_of (i := 327) (by decide +kernel) rfl⟩
set_option maxRecDepth 100000 in
theorem cv_RX9_107 : CV RX9 107 yX9_isRoom YM_isRoom 1 := ⟨⟨Or.inl (gd_of (i := 982) (by decide +kernel) rfl), gd_of (i := 48) (by decide +kernel) rfl, gd_of (i := 985) rfl rfl, by decide, by decide, by decide +kernel⟩, gd_of (i := 984) (by decide +kernel) rfl, gd_of (i := 20) (by decide +kernel) rfl⟩
set_option maxRecDepth 100000 in
theorem cv_RX9_120 : CV RX9 120 yX9_stands YM_stands 1 := ⟨⟨Or.inl (gd_of (i := 1045) (by decide +kernel) rfl), gd_of (i := 48) (by decide +kernel) rfl, gd_of (i := 1048) rfl rfl, by decide, by decide, by decide +kernel⟩, gd_of (i := 1047) (by decide +kernel) rfl, gd_of (i := 28) (by decide +kernel) rfl⟩
set_option maxRecDepth 100000 in
theorem cv_RX9_126 : CV RX9 126 yX9_isOpen YM_isOpen 2 := ⟨⟨Or.inl (gd_of (i := 1053) (by decide +kernel) rfl), gd_of (i := 48) (by decide +kernel) rfl, gd_of (i := 1056) rfl rfl, by decide, by decide, by decide +kernel⟩, gd_of (i := 1055) (by decide +kernel) rfl, gd_of (i := 30) (by decide +kernel) rfl⟩
set_option maxRecDepth 100000 in
theorem cv_RX9_129 : CV RX9 129 yX9_isFree YM_isFree 1 := ⟨⟨Or.inl (gd_of (i := 1057) (by decide +kernel) rfl), gd_of (i := 48) (by decide +kernel) rfl, gd_of (i := 1060) rfl rfl, by decide, by decide, by decide +kernel⟩, gd_of (i := 1059) (by decide +kernel) rfl, gd_of (i := 31) (by decide +kernel) rfl⟩
set_option maxRecDepth 100000 in
theorem cv_RX9_136 : CV RX9 136 yX9_poured YM_poured 1 := ⟨⟨Or.inl (gd_of (i := 1049) (by decide +kernel) rfl), gd_of (i := 48) (by decide +kernel) rfl, gd_of (i := 1052) rfl rfl, by decide, by decide, by decide +kernel⟩, gd_of (i := 1051) (by decide +kernel) rfl, gd_of (i := 29) (by decide +kernel) rfl⟩
set_option maxRecDepth 100000 in
theorem cv_RX9_140 : CV RX9 140 yX9_fresh YM_fresh 1 := ⟨⟨Or.inl (gd_of (i := 1037) (by decide +kernel) rfl), gd_of (i := 48) (by decide +kernel) rfl, gd_of (i := 1040) rfl rfl, by decide, by decide, by decide +kernel⟩, gd_of (i := 1039) (by decide +kernel) rfl, gd_of (i := 26) (by decide +kernel) rfl⟩
set_option maxRecDepth 100000 in
theorem cv_RX9_144 : CV RX9 144 yX9_wants YM_wants 2 := ⟨⟨Or.inl (gd_of (i := 1041) (by decide +kernel) rfl), gd_of (i := 48) (by decide +kernel) rfl, gd_of (i := 1044) rfl rfl, by decide, by decide, by decide +kernel⟩, gd_of (i := 1043) (by decide +kernel) rfl, gd_of (i := 27) (by decide +kernel) rfl⟩
set_option maxRecDepth 100000 in
theorem cv_RX9_147 : CV RX9 147 yX9_canAll YM_canAll 0 := ⟨⟨Or.inl (gd_of (i := 1105) (by decide +kernel) rfl), gd_of (i := 48) (by decide +kernel) rfl, gd_of (i := 1108) rfl rfl, by decide, by decide, by decide +kernel⟩, gd_of (i := 1107) (by decide +kernel) rfl, gd_of (i := 36) (by decide +kernel) rfl⟩
set_option maxRecDepth 100000 in
theorem cv_RX9_151 : CV RX9 151 yX9_keep YM_keep 2 := ⟨⟨Or.inl (gd_of (i := 1101) (by decide +kernel) rfl), gd_of (i := 48) (by decide +kernel) rfl, gd_of (i := 1104) rfl rfl, by decide, by decide, by decide +kernel⟩, gd_of (i := 1103) (by decide +kernel) rfl, gd_of (i := 35) (by decide +kernel) rfl⟩
set_option maxRecDepth 100000 in
theorem cv_RX9_155 : CV RX9 155 yX9_gives YM_gives 2 := ⟨⟨Or.inl (gd_of (i := 1109) (by decide +kernel) rfl), gd_of (i := 48) (by decide +kernel) rfl, gd_of (i := 1112) rfl rfl, by decide, by decide, by decide +kernel⟩, gd_of (i := 1111) (by decide +kernel) rfl, gd_of (i := 37) (by decide +kernel) rfl⟩
set_option maxRecDepth 100000 in
theorem cv_RX9_161 : CV RX9 161 yX9_plan YM_plan 1 := ⟨⟨Or.inl (gd_of (i := 1097) (by decide +kernel) rfl), gd_of (i := 48) (by decide +kernel) rfl, gd_of (i := 1100) rfl rfl, by decide, by decide, by decide +kernel⟩, gd_of (i := 1099) (by decide +kernel) rfl, gd_of (i := 34) (by decide +kernel) rfl⟩
set_option maxRecDepth 100000 in
theorem cv_RX9_171 : CV RX9 171 yX9_costOf YM_costOf 3 := ⟨⟨Or.inl (gd_of (i := 1028) (by decide +kernel) rfl), gd_of (i := 48) (by decide +kernel) rfl, gd_of (i := 1031) rfl rfl, by decide, by decide, by decide +kernel⟩, gd_of (i := 1030) (by decide +kernel) rfl, gd_of (i := 24) (by decide +kernel) rfl⟩
set_option maxRecDepth 100000 in
theorem cv_RX9_175 : CV RX9 175 yX9_isWish YM_isWish 3 := ⟨⟨Or.inl (gd_of (i := 1016) (by decide +kernel) rfl), gd_of (i := 48) (by decide +kernel) rfl, gd_of (i := 1019) rfl rfl, by decide, by decide, by decide +kernel⟩, gd_of (i := 1018) (by decide +kernel) rfl, gd_of (i := 22) (by decide +kernel) rfl⟩
set_option maxRecDepth 100000 in
theorem cv_RX9_182 : CV RX9 182 yX9_ways YM_ways 3 := ⟨⟨Or.inl (gd_of (i := 1023) (by decide +kernel) rfl), gd_of (i := 48) (by decide +kernel) rfl, gd_of (i := 1026) rfl rfl, by decide, by decide, by decide +kernel⟩, gd_of (i := 1025) (by decide +kernel) rfl, gd_of (i := 23) (by decide +kernel) rfl⟩
set_option maxRecDepth 100000 in
theorem cv_RX9_186 : CV RX9 186 yX9_lack YM_lack 3 := ⟨⟨Or.inl (gd_of (i := 1033) (by decide +kernel) rfl), gd_of (i := 48) (by decide +kernel) rfl, gd_of (i := 1036) rfl rfl, by decide, by decide, by decide +kernel⟩, gd_of (i := 1035) (by decide +kernel) rfl, gd_of (i := 25) (by decide +kernel) rfl⟩
set_option maxRecDepth 100000 in
theorem cv_RX9_193 : CV RX9 193 yX9_why YM_why 5 := ⟨⟨Or.inl (gd_of (i := 1012) (by decide +kernel) rfl), gd_of (i := 48) (by decide +kernel) rfl, gd_of (i := 1015) rfl rfl, by decide, by decide, by decide +kernel⟩, gd_of (i := 1014) (by decide +kernel) rfl, gd_of (i := 21) (by decide +kernel) rfl⟩
set_option maxRecDepth 100000 in
theorem cv_RX9_197 : CV RX9 197 yX9_can YM_can 4 := ⟨⟨Or.inl (gd_of (i := 1068) (by decide +kernel) rfl), gd_of (i := 48) (by decide +kernel) rfl, gd_of (i := 1011) rfl rfl, by decide, by decide, by decide +kernel⟩, gd_of (i := 1009) (by decide +kernel) rfl, gd_of (i := 1010) (by decide +kernel) rfl⟩
set_option maxRecDepth 100000 in
theorem cv_RX9_201 : CV RX9 201 yX9_is YM_is 1 := ⟨⟨Or.inl (gd_of (i := 1073) (by decide +kernel) rfl), gd_of (i := 48) (by decide +kernel) rfl, gd_of (i := 1076) rfl rfl, by decide, by decide, by decide +kernel⟩, gd_of (i := 1075) (by decide +kernel) rfl, gd_of (i := 32) (by decide +kernel) rfl⟩
set_option maxRecDepth 100000 in
theorem cv_RX9_204 : CV RX9 204 yX9_isMade YM_isMade 1 := ⟨⟨Or.inl (gd_of (i := 1081) (by decide +kernel) rfl), gd_of (i := 48) (by decide +kernel) rfl, gd_of (i := 1084) rfl rfl, by decide, by decide, by decide +kernel⟩, gd_of (i := 1083) (by decide +kernel) rfl, gd_of (i := 33) (by decide +kernel) rfl⟩
set_option maxRecDepth 100000 in
theorem cv_RX9_207 : CV RX9 207 yX9_hasMoved YM_hasMoved 2 := ⟨⟨Or.inl (gd_of (i := 1113) (by decide +kernel) rfl), gd_of (i := 48) (by decide +kernel) rfl, gd_of (i := 1116) rfl rfl, by decide, by decide, by decide +kernel⟩, gd_of (i := 1115) (by decide +kernel) rfl, gd_of (i := 38) (by decide +kernel) rfl⟩
set_option maxRecDepth 100000 in
theorem cv_RX9_210 : CV RX9 210 yX9_plans YM_plans 0 := ⟨⟨Or.inl (gd_of (i := 1125) (by decide +kernel) rfl), gd_of (i := 48) (by decide +kernel) rfl, gd_of (i := 1128) rfl rfl, by decide, by decide, by decide +kernel⟩, gd_of (i := 1127) (by decide +kernel) rfl, gd_of (i := 39) (by decide +kernel) rfl⟩
set_option maxRecDepth 100000 in
theorem cv_RX9_213 : CV RX9 213 yX9_hasSomebody YM_hasSomebody 3 := ⟨⟨Or.inl (gd_of (i := 1145) (by decide +kernel) rfl), gd_of (i := 48) (by decide +kernel) rfl, gd_of (i := 1148) rfl rfl, by decide, by decide, by decide +kernel⟩, gd_of (i := 1147) (by decide +kernel) rfl, gd_of (i := 40) (by decide +kernel) rfl⟩
theorem fg_RX0_11 : FG RX0 11 0 0 RX0 TX0 2 := ⟨rfl, gdX0, lt_b rfl, Or.inl (gd_of (i := 92) (by decide +kernel) rfl)⟩
theorem fg_RX0_17 : FG RX0 17 0 1 RX0 TX0 2 := ⟨rfl, gdX0, lt_b rfl, Or.inl (gd_of (i := 93) (by decide +kernel) rfl)⟩
theorem fg_RX0_36 : FG RX0 36 3 3 RX3 TX3 8 := ⟨rfl, gdX3, lt_b rfl, Or.inr (nw_of (i := 470) (by decide +kernel) rfl)⟩
theorem fg_RX0_43 : FG RX0 43 3 5 RX3 TX3 8 := ⟨rfl, gdX3, lt_b rfl, Or.inr (nw_of (i := 475) (by decide +kernel) rfl)⟩
theorem fg_RX0_46 : FG RX0 46 3 2 RX3 TX3 8 := ⟨rfl, gdX3, lt_b rfl, Or.inr (nw_of (i := 466) (by decide +kernel) rfl)⟩
theorem fg_RX1_11 : FG RX1 11 1 0 RX1 TX1 2 := ⟨rfl, gdX1, lt_b rfl, Or.inl (gd_of (i := 76) (by decide +kernel) rfl)⟩
theorem fg_RX1_17 : FG RX1 17 1 1 RX1 TX1 2 := ⟨rfl, gdX1, lt_b rfl, Or.inl (gd_of (i := 77) (by decide +kernel) rfl)⟩
theorem fg_RX1_29 : FG RX1 29 4 0 RX4 TX4 7 := ⟨rfl, gdX4, lt_b rfl, Or.inr (nw_of (i := 221) (by decide +kernel) rfl)⟩
theorem fg_RX1_33 : FG RX1 33 4 1 RX4 TX4 7 := ⟨rfl, gdX4, lt_b rfl, Or.inr (nw_of (i := 223) (by decide +kernel) rfl)⟩
theorem fg_RX1_36 : FG RX1 36 4 3 RX4 TX4 7 := ⟨rfl, gdX4, lt_b rfl, Or.inr (nw_of (i := 230) (by decide +kernel) rfl)⟩
theorem fg_RX2_11 : FG RX2 11 2 3 RX2 TX2 6 := ⟨rfl, gdX2, lt_b rfl, Or.inl (gd_of (i := 134) (by decide +kernel) rfl)⟩
theorem fg_RX2_114 : FG RX2 114 4 3 RX4 TX4 7 := ⟨rfl, gdX4, lt_b rfl, Or.inr (nw_of (i := 229) (by decide +kernel) rfl)⟩
theorem fg_RX2_17 : FG RX2 17 2 4 RX2 TX2 6 := ⟨rfl, gdX2, lt_b rfl, Or.inl (gd_of (i := 135) (by decide +kernel) rfl)⟩
theorem fg_RX2_21 : FG RX2 21 2 0 RX2 TX2 6 := ⟨rfl, gdX2, lt_b rfl, Or.inl (gd_of (i := 131) (by decide +kernel) rfl)⟩
theorem fg_RX2_25 : FG RX2 25 2 1 RX2 TX2 6 := ⟨rfl, gdX2, lt_b rfl, Or.inl (gd_of (i := 132) (by decide +kernel) rfl)⟩
theorem fg_RX2_29 : FG RX2 29 2 2 RX2 TX2 6 := ⟨rfl, gdX2, lt_b rfl, Or.inl (gd_of (i := 133) (by decide +kernel) rfl)⟩
theorem fg_RX2_37 : FG RX2 37 2 5 RX2 TX2 6 := ⟨rfl, gdX2, lt_b rfl, Or.inl (gd_of (i := 136) (by decide +kernel) rfl)⟩
theorem fg_RX2_61 : FG RX2 61 3 0 RX3 TX3 8 := ⟨rfl, gdX3, lt_b rfl, Or.inr (nw_of (i := 461) (by decide +kernel) rfl)⟩
theorem fg_RX2_71 : FG RX2 71 0 1 RX0 TX0 2 := ⟨rfl, gdX0, lt_b rfl, Or.inr (nw_of (i := 94) (by decide +kernel) rfl)⟩
theorem fg_RX2_88 : FG RX2 88 3 3 RX3 TX3 8 := ⟨rfl, gdX3, lt_b rfl, Or.inr (nw_of (i := 469) (by decide +kernel) rfl)⟩
theorem fg_RX3_15 : FG RX3 15 3 0 RX3 TX3 8 := ⟨rfl, gdX3, lt_b rfl, Or.inl (gd_of (i := 460) (by decide +kernel) rfl)⟩
theorem fg_RX3_19 : FG RX3 19 3 1 RX3 TX3 8 := ⟨rfl, gdX3, lt_b rfl, Or.inl (gd_of (i := 463) (by decide +kernel) rfl)⟩
theorem fg_RX3_22 : FG RX3 22 3 2 RX3 TX3 8 := ⟨rfl, gdX3, lt_b rfl, Or.inl (gd_of (i := 465) (by decide +kernel) rfl)⟩
theorem fg_RX3_25 : FG RX3 25 3 3 RX3 TX3 8 := ⟨rfl, gdX3, lt_b rfl, Or.inl (gd_of (i := 468) (by decide +kernel) rfl)⟩
theorem fg_RX3_34 : FG RX3 34 3 4 RX3 TX3 8 := ⟨rfl, gdX3, lt_b rfl, Or.inl (gd_of (i := 472) (by decide +kernel) rfl)⟩
theorem fg_RX3_37 : FG RX3 37 3 5 RX3 TX3 8 := ⟨rfl, gdX3, lt_b rfl, Or.inl (gd_of (i := 474) (by decide +kernel) rfl)⟩
theorem fg_RX3_40 : FG RX3 40 3 6 RX3 TX3 8 := ⟨rfl, gdX3, lt_b rfl, Or.inl (gd_of (i := 477) (by decide +kernel) rfl)⟩
theorem fg_RX3_9 : FG RX3 9 3 7 RX3 TX3 8 := ⟨rfl, gdX3, lt_b rfl, Or.inl (gd_of (i := 479) (by decide +kernel) rfl)⟩
theorem fg_RX4_15 : FG RX4 15 4 0 RX4 TX4 7 := ⟨rfl, gdX4, lt_b rfl, Or.inl (gd_of (i := 219) (by decide +kernel) rfl)⟩
theorem fg_RX4_18 : FG RX4 18 4 1 RX4 TX4 7 := ⟨rfl, gdX4, lt_b rfl, Or.inl (gd_of (i := 222) (by decide +kernel) rfl)⟩
theorem fg_RX4_21 : FG RX4 21 4 2 RX4 TX4 7 := ⟨rfl, gdX4, lt_b rfl, Or.inl (gd_of (i := 225) (by decide +kernel) rfl)⟩
theorem fg_RX4_24 : FG RX4 24 4 5 RX4 TX4 7 := ⟨rfl, gdX4, lt_b rfl, Or.inl (gd_of (i := 234) (by decide +kernel) rfl)⟩
theorem fg_RX4_27 : FG RX4 27 4 4 RX4 TX4 7 := ⟨rfl, gdX4, lt_b rfl, Or.inl (gd_of (i := 232) (by decide +kernel) rfl)⟩
theorem fg_RX4_31 : FG RX4 31 4 6 RX4 TX4 7 := ⟨rfl, gdX4, lt_b rfl, Or.inl (gd_of (i := 235) (by decide +kernel) rfl)⟩
theorem fg_RX4_9 : FG RX4 9 4 3 RX4 TX4 7 := ⟨rfl, gdX4, lt_b rfl, Or.inl (gd_of (i := 227) (by decide +kernel) rfl)⟩
theorem fg_RX5_15 : FG RX5 15 5 0 RX5 TX5 4 := ⟨rfl, gdX5, lt_b rfl, Or.inl (gd_of (i := 705) (by decide +kernel) rfl)⟩
theorem fg_RX5_19 : FG RX5 19 5 1 RX5 TX5 4 := ⟨rfl, gdX5, lt_b rfl, Or.inl (gd_of (i := 706) (by decide +kernel) rfl)⟩
theorem fg_RX5_22 : FG RX5 22 5 2 RX5 TX5 4 := ⟨rfl, gdX5, lt_b rfl, Or.inl (gd_of (i := 707) (by decide +kernel) rfl)⟩
theorem fg_RX5_9 : FG RX5 9 5 3 RX5 TX5 4 := ⟨rfl, gdX5, lt_b rfl, Or.inl (gd_of (i := 708) (by decide +kernel) rfl)⟩
theorem fg_RX6_11 : FG RX6 11 6 0 RX6 TX6 5 := ⟨rfl, gdX6, lt_b rfl, Or.inl (gd_of (i := 160) (by decide +kernel) rfl)⟩
theorem fg_RX6_18 : FG RX6 18 6 1 RX6 TX6 5 := ⟨rfl, gdX6, lt_b rfl, Or.inl (gd_of (i := 161) (by decide +kernel) rfl)⟩
theorem fg_RX6_22 : FG RX6 22 6 3 RX6 TX6 5 := ⟨rfl, gdX6, lt_b rfl, Or.inl (gd_of (i := 163) (by decide +kernel) rfl)⟩
theorem fg_RX6_26 : FG RX6 26 6 4 RX6 TX6 5 := ⟨rfl, gdX6, lt_b rfl, Or.inl (gd_of (i := 164) (by decide +kernel) rfl)⟩
theorem fg_RX6_40 : FG RX6 40 6 2 RX6 TX6 5 := ⟨rfl, gdX6, lt_b rfl, Or.inl (gd_of (i := 162) (by decide +kernel) rfl)⟩
theorem fg_RX6_51 : FG RX6 51 5 3 RX5 TX5 4 := ⟨rfl, gdX5, lt_b rfl, Or.inr (nw_of (i := 709) (by decide +kernel) rfl)⟩
theorem fg_RX7_15 : FG RX7 15 7 2 RX7 TX7 5 := ⟨rfl, gdX7, lt_b rfl, Or.inl (gd_of (i := 109) (by decide +kernel) rfl)⟩
theorem fg_RX7_18 : FG RX7 18 7 3 RX7 TX7 5 := ⟨rfl, gdX7, lt_b rfl, Or.inl (gd_of (i := 110) (by decide +kernel) rfl)⟩
theorem fg_RX7_21 : FG RX7 21 7 0 RX7 TX7 5 := ⟨rfl, gdX7, lt_b rfl, Or.inl (gd_of (i := 107) (by decide +kernel) rfl)⟩
theorem fg_RX7_31 : FG RX7 31 7 4 RX7 TX7 5 := ⟨rfl, gdX7, lt_b rfl, Or.inl (gd_of (i := 111) (by decide +kernel) rfl)⟩
theorem fg_RX7_51 : FG RX7 51 4 0 RX4 TX4 7 := ⟨rfl, gdX4, lt_b rfl, Or.inr (nw_of (i := 220) (by decide +kernel) rfl)⟩
theorem fg_RX7_54 : FG RX7 54 4 3 RX4 TX4 7 := ⟨rfl, gdX4, lt_b rfl, Or.inr (nw_of (i := 228) (by decide +kernel) rfl)⟩
theorem fg_RX7_9 : FG RX7 9 7 1 RX7 TX7 5 := ⟨rfl, gdX7, lt_b rfl, Or.inl (gd_of (i := 108) (by decide +kernel) rfl)⟩
theorem fg_RX8_10 : FG RX8 10 8 0 RX8 TX8 8 := ⟨rfl, gdX8, lt_b rfl, Or.inl (gd_of (i := 177) (by decide +kernel) rfl)⟩
theorem fg_RX8_100 : FG RX8 100 4 1 RX4 TX4 7 := ⟨rfl, gdX4, lt_b rfl, Or.inr (nw_of (i := 224) (by decide +kernel) rfl)⟩
theorem fg_RX8_104 : FG RX8 104 4 2 RX4 TX4 7 := ⟨rfl, gdX4, lt_b rfl, Or.inr (nw_of (i := 226) (by decide +kernel) rfl)⟩
theorem fg_RX8_107 : FG RX8 107 4 3 RX4 TX4 7 := ⟨rfl, gdX4, lt_b rfl, Or.inr (nw_of (i := 231) (by decide +kernel) rfl)⟩
theorem fg_RX8_120 : FG RX8 120 8 5 RX8 TX8 8 := ⟨rfl, gdX8, lt_b rfl, Or.inl (gd_of (i := 182) (by decide +kernel) rfl)⟩
theorem fg_RX8_144 : FG RX8 144 3 3 RX3 TX3 8 := ⟨rfl, gdX3, lt_b rfl, Or.inr (nw_of (i := 471) (by decide +kernel) rfl)⟩
theorem fg_RX8_155 : FG RX8 155 3 0 RX3 TX3 8 := ⟨rfl, gdX3, lt_b rfl, Or.inr (nw_of (i := 462) (by decide +kernel) rfl)⟩
theorem fg_RX8_158 : FG RX8 158 3 1 RX3 TX3 8 := ⟨rfl, gdX3, lt_b rfl, Or.inr (nw_of (i := 464) (by decide +kernel) rfl)⟩
theorem fg_RX8_161 : FG RX8 161 3 4 RX3 TX3 8 := ⟨rfl, gdX3, lt_b rfl, Or.inr (nw_of (i := 473) (by decide +kernel) rfl)⟩
theorem fg_RX8_176 : FG RX8 176 8 7 RX8 TX8 8 := ⟨rfl, gdX8, lt_b rfl, Or.inl (gd_of (i := 184) (by decide +kernel) rfl)⟩
theorem fg_RX8_186 : FG RX8 186 3 5 RX3 TX3 8 := ⟨rfl, gdX3, lt_b rfl, Or.inr (nw_of (i := 476) (by decide +kernel) rfl)⟩
theorem fg_RX8_189 : FG RX8 189 3 2 RX3 TX3 8 := ⟨rfl, gdX3, lt_b rfl, Or.inr (nw_of (i := 467) (by decide +kernel) rfl)⟩
theorem fg_RX8_19 : FG RX8 19 8 1 RX8 TX8 8 := ⟨rfl, gdX8, lt_b rfl, Or.inl (gd_of (i := 178) (by decide +kernel) rfl)⟩
theorem fg_RX8_192 : FG RX8 192 3 6 RX3 TX3 8 := ⟨rfl, gdX3, lt_b rfl, Or.inr (nw_of (i := 478) (by decide +kernel) rfl)⟩
theorem fg_RX8_208 : FG RX8 208 0 1 RX0 TX0 2 := ⟨rfl, gdX0, lt_b rfl, Or.inr (nw_of (i := 95) (by decide +kernel) rfl)⟩
theorem fg_RX8_234 : FG RX8 234 8 6 RX8 TX8 8 := ⟨rfl, gdX8, lt_b rfl, Or.inl (gd_of (i := 183) (by decide +kernel) rfl)⟩
theorem fg_RX8_28 : FG RX8 28 8 2 RX8 TX8 8 := ⟨rfl, gdX8, lt_b rfl, Or.inl (gd_of (i := 179) (by decide +kernel) rfl)⟩
theorem fg_RX8_37 : FG RX8 37 8 3 RX8 TX8 8 := ⟨rfl, gdX8, lt_b rfl, Or.inl (gd_of (i := 180) (by decide +kernel) rfl)⟩
theorem fg_RX8_44 : FG RX8 44 8 4 RX8 TX8 8 := ⟨rfl, gdX8, lt_b rfl, Or.inl (gd_of (i := 181) (by decide +kernel) rfl)⟩
theorem fg_RX8_75 : FG RX8 75 4 4 RX4 TX4 7 := ⟨rfl, gdX4, lt_b rfl, Or.inr (nw_of (i := 233) (by decide +kernel) rfl)⟩
theorem fg_RX9_1 : FG RX9 1 9 0 RX9 TX9 35 := ⟨rfl, gdX9, lt_b rfl, Or.inl (gd_of (i := 857) (by decide +kernel) rfl)⟩
theorem fg_RX9_100 : FG RX9 100 9 34 RX9 TX9 35 := ⟨rfl, gdX9, lt_b rfl, Or.inl (gd_of (i := 891) (by decide +kernel) rfl)⟩
theorem fg_RX9_117 : FG RX9 117 9 20 RX9 TX9 35 := ⟨rfl, gdX9, lt_b rfl, Or.inl (gd_of (i := 877) (by decide +kernel) rfl)⟩
theorem fg_RX9_123 : FG RX9 123 9 22 RX9 TX9 35 := ⟨rfl, gdX9, lt_b rfl, Or.inl (gd_of (i := 879) (by decide +kernel) rfl)⟩
theorem fg_RX9_13 : FG RX9 13 9 1 RX9 TX9 35 := ⟨rfl, gdX9, lt_b rfl, Or.inl (gd_of (i := 858) (by decide +kernel) rfl)⟩
theorem fg_RX9_158 : FG RX9 158 9 8 RX9 TX9 35 := ⟨rfl, gdX9, lt_b rfl, Or.inl (gd_of (i := 865) (by decide +kernel) rfl)⟩
theorem fg_RX9_166 : FG RX9 166 9 32 RX9 TX9 35 := ⟨rfl, gdX9, lt_b rfl, Or.inl (gd_of (i := 889) (by decide +kernel) rfl)⟩
theorem fg_RX9_17 : FG RX9 17 9 2 RX9 TX9 35 := ⟨rfl, gdX9, lt_b rfl, Or.inl (gd_of (i := 859) (by decide +kernel) rfl)⟩
theorem fg_RX9_190 : FG RX9 190 9 9 RX9 TX9 35 := ⟨rfl, gdX9, lt_b rfl, Or.inl (gd_of (i := 866) (by decide +kernel) rfl)⟩
theorem fg_RX9_20 : FG RX9 20 9 3 RX9 TX9 35 := ⟨rfl, gdX9, lt_b rfl, Or.inl (gd_of (i := 860) (by decide +kernel) rfl)⟩
theorem fg_RX9_23 : FG RX9 23 9 4 RX9 TX9 35 := ⟨rfl, gdX9, lt_b rfl, Or.inl (gd_of (i := 861) (by decide +kernel) rfl)⟩
theorem fg_RX9_26 : FG RX9 26 9 5 RX9 TX9 35 := ⟨rfl, gdX9, lt_b rfl, Or.inl (gd_of (i := 862) (by decide +kernel) rfl)⟩
theorem fg_RX9_29 : FG RX9 29 9 6 RX9 TX9 35 := ⟨rfl, gdX9, lt_b rfl, Or.inl (gd_of (i := 863) (by decide +kernel) rfl)⟩
theorem fg_RX9_33 : FG RX9 33 9 7 RX9 TX9 35 := ⟨rfl, gdX9, lt_b rfl, Or.inl (gd_of (i := 864) (by decide +kernel) rfl)⟩
theorem fg_RX9_37 : FG RX9 37 9 10 RX9 TX9 35 := ⟨rfl, gdX9, lt_b rfl, Or.inl (gd_of (i := 867) (by decide +kernel) rfl)⟩
theorem fg_RX9_40 : FG RX9 40 9 11 RX9 TX9 35 := ⟨rfl, gdX9, lt_b rfl, Or.inl (gd_of (i := 868) (by decide +kernel) rfl)⟩
theorem fg_RX9_43 : FG RX9 43 9 12 RX9 TX9 35 := ⟨rfl, gdX9, lt_b rfl, Or.inl (gd_of (i := 869) (by decide +kernel) rfl)⟩
theorem fg_RX9_46 : FG RX9 46 9 13 RX9 TX9 35 := ⟨rfl, gdX9, lt_b rfl, Or.inl (gd_of (i := 870) (by decide +kernel) rfl)⟩
theorem fg_RX9_49 : FG RX9 49 9 14 RX9 TX9 35 := ⟨rfl, gdX9, lt_b rfl, Or.inl (gd_of (i := 871) (by decide +kernel) rfl)⟩
theorem fg_RX9_52 : FG RX9 52 9 15 RX9 TX9 35 := ⟨rfl, gdX9, lt_b rfl, Or.inl (gd_of (i := 872) (by decide +kernel) rfl)⟩
theorem fg_RX9_55 : FG RX9 55 9 16 RX9 TX9 35 := ⟨rfl, gdX9, lt_b rfl, Or.inl (gd_of (i := 873) (by decide +kernel) rfl)⟩
theorem fg_RX9_58 : FG RX9 58 9 17 RX9 TX9 35 := ⟨rfl, gdX9, lt_b rfl, Or.inl (gd_of (i := 874) (by decide +kernel) rfl)⟩
theorem fg_RX9_61 : FG RX9 61 9 18 RX9 TX9 35 := ⟨rfl, gdX9, lt_b rfl, Or.inl (gd_of (i := 875) (by decide +kernel) rfl)⟩
theorem fg_RX9_64 : FG RX9 64 9 19 RX9 TX9 35 := ⟨rfl, gdX9, lt_b rfl, Or.inl (gd_of (i := 876) (by decide +kernel) rfl)⟩
theorem fg_RX9_67 : FG RX9 67 9 21 RX9 TX9 35 := ⟨rfl, gdX9, lt_b rfl, Or.inl (gd_of (i := 878) (by decide +kernel) rfl)⟩
theorem fg_RX9_70 : FG RX9 70 9 23 RX9 TX9 35 := ⟨rfl, gdX9, lt_b rfl, Or.inl (gd_of (i := 880) (by decide +kernel) rfl)⟩
theorem fg_RX9_73 : FG RX9 73 9 24 RX9 TX9 35 := ⟨rfl, gdX9, lt_b rfl, Or.inl (gd_of (i := 881) (by decide +kernel) rfl)⟩
theorem fg_RX9_76 : FG RX9 76 9 25 RX9 TX9 35 := ⟨rfl, gdX9, lt_b rfl, Or.inl (gd_of (i := 882) (by decide +kernel) rfl)⟩
theorem fg_RX9_79 : FG RX9 79 9 26 RX9 TX9 35 := ⟨rfl, gdX9, lt_b rfl, Or.inl (gd_of (i := 883) (by decide +kernel) rfl)⟩
theorem fg_RX9_82 : FG RX9 82 9 27 RX9 TX9 35 := ⟨rfl, gdX9, lt_b rfl, Or.inl (gd_of (i := 884) (by decide +kernel) rfl)⟩
theorem fg_RX9_85 : FG RX9 85 9 28 RX9 TX9 35 := ⟨rfl, gdX9, lt_b rfl, Or.inl (gd_of (i := 885) (by decide +kernel) rfl)⟩
theorem fg_RX9_88 : FG RX9 88 9 29 RX9 TX9 35 := ⟨rfl, gdX9, lt_b rfl, Or.inl (gd_of (i := 886) (by decide +kernel) rfl)⟩
theorem fg_RX9_91 : FG RX9 91 9 30 RX9 TX9 35 := ⟨rfl, gdX9, lt_b rfl, Or.inl (gd_of (i := 887) (by decide +kernel) rfl)⟩
theorem fg_RX9_94 : FG RX9 94 9 31 RX9 TX9 35 := ⟨rfl, gdX9, lt_b rfl, Or.inl (gd_of (i := 888) (by decide +kernel) rfl)⟩
theorem fg_RX9_97 : FG RX9 97 9 33 RX9 TX9 35 := ⟨rfl, gdX9, lt_b rfl, Or.inl (gd_of (i := 890) (by decide +kernel) rfl)⟩
