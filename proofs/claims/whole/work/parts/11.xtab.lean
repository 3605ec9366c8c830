/-! 11.xtab: the methods and what their instructions name, as tables (written by wip/whole/xgen.py) -/
def xcls : Nat → String
  | 0 => RX0
  | 1 => RX1
  | 2 => RX2
  | 3 => RX3
  | 4 => RX4
  | 5 => RX5
  | 6 => RX6
  | 7 => RX7
  | 8 => RX8
  | 9 => RX9
  | 10 => RX10
  | 11 => RJ6
  | 12 => RJ9
  | _ => ""
def qX0_init : xq := (0, 0, yX0_init, cX0_init, 3, none, 1, 20)
def qX0_markAt : xq := (0, 1, yX0_markAt, cX0_markAt, 2, some (FieldType.int), 0, 0)
def qX0_perform : xq := (0, 2, yX0_perform, cX0_perform, 4, some (FieldType.int), 6, 136)
def qX0_mark : xq := (0, 3, yX0_mark, cX0_mark, 2, none, 0, 0)
def qX0_closeAll : xq := (0, 4, yX0_closeAll, cX0_closeAll, 2, none, 1, 21)
def qX0_finish : xq := (0, 5, yX0_finish, cX0_finish, 3, none, 3, 64)
def qX0_newRowOf : xq := (0, 6, yX0_newRowOf, cX0_newRowOf, 2, some ((FieldType.object "CordBay$Row")), 5, 115)
def qX0_fail : xq := (0, 7, yX0_fail, cX0_fail, 3, some ((FieldType.object "CordBay$Row")), 0, 0)
def qX0_rowAt : xq := (0, 8, yX0_rowAt, cX0_rowAt, 3, some ((FieldType.object "CordBay$Row")), 2, 42)
def qX0_wantedRow : xq := (0, 9, yX0_wantedRow, cX0_wantedRow, 5, some ((FieldType.object "CordBay$Row")), 3, 64)
def qX0_endsAhead : xq := (0, 10, yX0_endsAhead, cX0_endsAhead, 3, some (FieldType.boolean), 1, 22)
def qX0_playTable : xq := (0, 11, yX0_playTable, cX0_playTable, 6, some ((FieldType.object "CordBay$Row")), 4, 86)
def qX0_putFromTable : xq := (0, 12, yX0_putFromTable, cX0_putFromTable, 5, none, 2, 48)
def qX0_putWhole : xq := (0, 13, yX0_putWhole, cX0_putWhole, 5, none, 1, 24)
def qX0_shape : xq := (0, 14, yX0_shape, cX0_shape, 5, some ((FieldType.object "CordBay$Row")), 4, 88)
def qX0_shapedSample : xq := (0, 15, yX0_shapedSample, cX0_shapedSample, 12, some (FieldType.double), 1, 25)
def qX0_gainAt : xq := (0, 16, yX0_gainAt, cX0_gainAt, 6, some (FieldType.double), 0, 0)
def qX0_mix : xq := (0, 17, yX0_mix, cX0_mix, 5, some ((FieldType.object "CordBay$Row")), 4, 90)
def qX0_sumAt : xq := (0, 18, yX0_sumAt, cX0_sumAt, 7, some (FieldType.long), 3, 64)
def qX0_openGate : xq := (0, 19, yX0_openGate, cX0_openGate, 5, some ((FieldType.object "CordBay$Row")), 4, 88)
def qX0_upAfter : xq := (0, 20, yX0_upAfter, cX0_upAfter, 4, some (FieldType.int), 0, 0)
def qX0_turn : xq := (0, 21, yX0_turn, cX0_turn, 5, some ((FieldType.object "CordBay$Row")), 4, 88)
def qX0_putFloating : xq := (0, 22, yX0_putFloating, cX0_putFloating, 7, none, 2, 48)
def qX0_passOn : xq := (0, 23, yX0_passOn, cX0_passOn, 4, some ((FieldType.object "CordBay$Row")), 4, 88)
def qX0_average : xq := (0, 24, yX0_average, cX0_average, 8, some ((FieldType.object "CordBay$Row")), 4, 88)
def qX1_init : xq := (1, 25, yX1_init, cX1_init, 2, none, 1, 20)
def qX1_remember : xq := (1, 26, yX1_remember, cX1_remember, 3, none, 2, 43)
def qX1_advance : xq := (1, 27, yX1_advance, cX1_advance, 1, none, 1, 21)
def qX1_undo : xq := (1, 28, yX1_undo, cX1_undo, 3, none, 2, 43)
def qX1_goBack : xq := (1, 29, yX1_goBack, cX1_goBack, 2, none, 3, 65)
def qX2_init : xq := (2, 30, yX2_init, cX2_init, 2, none, 1, 20)
def qX2_has : xq := (2, 31, yX2_has, cX2_has, 2, some (FieldType.boolean), 0, 0)
def qX2_isUnused : xq := (2, 32, yX2_isUnused, cX2_isUnused, 2, some (FieldType.boolean), 1, 21)
def qX2_store : xq := (2, 33, yX2_store, cX2_store, 5, some (FieldType.int), 1, 72)
def qX2_restore : xq := (2, 34, yX2_restore, cX2_restore, 5, some (FieldType.int), 2, 72)
def qX3_init : xq := (3, 35, yX3_init, cX3_init, 1, none, 1, 20)
def qX3_isFull : xq := (3, 36, yX3_isFull, cX3_isFull, 1, some (FieldType.boolean), 0, 0)
def qX3_at : xq := (3, 37, yX3_at, cX3_at, 2, some ((FieldType.object "CordBay$Unit")), 0, 0)
def qX3_givenBy : xq := (3, 38, yX3_givenBy, cX3_givenBy, 2, some ((FieldType.object "CordBay$Row")), 0, 0)
def qX3_inLine : xq := (3, 39, yX3_inLine, cX3_inLine, 2, some (FieldType.int), 0, 0)
def qX3_add : xq := (3, 40, yX3_add, cX3_add, 4, some (FieldType.int), 6, 130)
def qX3_join : xq := (3, 41, yX3_join, cX3_join, 4, none, 6, 130)
def qX3_cordCount : xq := (3, 42, yX3_cordCount, cX3_cordCount, 5, some (FieldType.int), 2, 42)
def qX3_shortestLoop : xq := (3, 43, yX3_shortestLoop, cX3_shortestLoop, 6, some (FieldType.int), 4, 88)
def qX3_stepOn : xq := (3, 44, yX3_stepOn, cX3_stepOn, 3, none, 3, 66)
def qX3_isFedAtStep : xq := (3, 45, yX3_isFedAtStep, cX3_isFedAtStep, 5, some (FieldType.boolean), 2, 42)
def qX3_lineUp : xq := (3, 46, yX3_lineUp, cX3_lineUp, 3, none, 5, 108)
def qX3_placeNext : xq := (3, 47, yX3_placeNext, cX3_placeNext, 3, none, 4, 86)
def qX3_leastReady : xq := (3, 48, yX3_leastReady, cX3_leastReady, 2, some (FieldType.int), 3, 65)
def qX3_isReady : xq := (3, 49, yX3_isReady, cX3_isReady, 4, some (FieldType.boolean), 2, 42)
def qX4_init : xq := (4, 50, yX4_init, cX4_init, 3, none, 1, 20)
def qX4_isFloating : xq := (4, 51, yX4_isFloating, cX4_isFloating, 1, some (FieldType.boolean), 0, 0)
def qX4_has : xq := (4, 52, yX4_has, cX4_has, 2, some (FieldType.boolean), 0, 0)
def qX4_valueAt : xq := (4, 53, yX4_valueAt, cX4_valueAt, 2, some (FieldType.double), 1, 21)
def qX4_lacksNumberAt : xq := (4, 54, yX4_lacksNumberAt, cX4_lacksNumberAt, 2, some (FieldType.boolean), 1, 21)
def qX4_put : xq := (4, 55, yX4_put, cX4_put, 4, none, 0, 0)
def qX4_putNoNumber : xq := (4, 56, yX4_putNoNumber, cX4_putNoNumber, 2, none, 1, 21)
def qX4_noneCount : xq := (4, 57, yX4_noneCount, cX4_noneCount, 1, some (FieldType.int), 1, 20)
def qX4_isSilent : xq := (4, 58, yX4_isSilent, cX4_isSilent, 2, some (FieldType.boolean), 0, 0)
def qX4_isSameAs : xq := (4, 59, yX4_isSameAs, cX4_isSameAs, 3, some (FieldType.boolean), 2, 42)
def qX4_haveSameBits : xq := (4, 60, yX4_haveSameBits, cX4_haveSameBits, 4, some (FieldType.boolean), 0, 0)
def qX5_init : xq := (5, 61, yX5_init, cX5_init, 1, none, 1, 20)
def qX5_copyFrom : xq := (5, 62, yX5_copyFrom, cX5_copyFrom, 3, none, 0, 0)
def qX5_feed : xq := (5, 63, yX5_feed, cX5_feed, 3, none, 0, 0)
def qX5_fedAgo : xq := (5, 64, yX5_fedAgo, cX5_fedAgo, 2, some ((FieldType.object "CordBay$Row")), 1, 21)
def qX5_heldWithin : xq := (5, 65, yX5_heldWithin, cX5_heldWithin, 5, some (FieldType.int), 0, 0)
def qX6_init : xq := (6, 66, yX6_init, cX6_init, 2, none, 1, 20)
def qX6_has : xq := (6, 67, yX6_has, cX6_has, 2, some (FieldType.boolean), 0, 0)
def qX6_lengthOf : xq := (6, 68, yX6_lengthOf, cX6_lengthOf, 2, some (FieldType.int), 1, 21)
def qX6_isMissing : xq := (6, 69, yX6_isMissing, cX6_isMissing, 2, some (FieldType.boolean), 2, 42)
def qX6_hasPlace : xq := (6, 70, yX6_hasPlace, cX6_hasPlace, 3, some (FieldType.boolean), 2, 42)
def qX6_renew : xq := (6, 71, yX6_renew, cX6_renew, 4, none, 1, 21)
def qX6_put : xq := (6, 72, yX6_put, cX6_put, 4, none, 3, 64)
def qX6_at : xq := (6, 73, yX6_at, cX6_at, 3, some (FieldType.int), 3, 64)
def qX7_init : xq := (7, 74, yX7_init, cX7_init, 1, none, 1, 20)
def qX7_isFull : xq := (7, 75, yX7_isFull, cX7_isFull, 1, some (FieldType.boolean), 0, 0)
def qX7_add : xq := (7, 76, yX7_add, cX7_add, 2, some (FieldType.int), 0, 0)
def qX7_at : xq := (7, 77, yX7_at, cX7_at, 2, some ((FieldType.object "CordBay$Row")), 0, 0)
def qX8_init : xq := (8, 78, yX8_init, cX8_init, 5, none, 2, 40)
def qX8_hasIn : xq := (8, 79, yX8_hasIn, cX8_hasIn, 2, some (FieldType.boolean), 0, 0)
def qX8_inCount : xq := (8, 80, yX8_inCount, cX8_inCount, 1, some (FieldType.int), 0, 0)
def qX8_cordOf : xq := (8, 81, yX8_cordOf, cX8_cordOf, 2, some (FieldType.int), 1, 21)
def qX8_setCord : xq := (8, 82, yX8_setCord, cX8_setCord, 3, none, 1, 21)
def qX8_remember : xq := (8, 83, yX8_remember, cX8_remember, 2, none, 1, 22)
def qX8_becomeAsIn : xq := (8, 84, yX8_becomeAsIn, cX8_becomeAsIn, 2, none, 1, 22)
def qX9_init : xq := (9, 85, yX9_init, cX9_init, 1, none, 2, 42)
def qX9_module : xq := (9, 86, yX9_module, cX9_module, 3, some (FieldType.int), 7, 153)
def qX9_cord : xq := (9, 87, yX9_cord, cX9_cord, 6, some (FieldType.int), 7, 153)
def qX9_from : xq := (9, 88, yX9_from, cX9_from, 4, some (FieldType.int), 2, 42)
def qX9_knob : xq := (9, 89, yX9_knob, cX9_knob, 6, some (FieldType.int), 1, 21)
def qX9_table : xq := (9, 90, yX9_table, cX9_table, 3, some (FieldType.int), 2, 44)
def qX9_write : xq := (9, 91, yX9_write, cX9_write, 4, some (FieldType.int), 4, 87)
def qX9_block : xq := (9, 92, yX9_block, cX9_block, 3, some (FieldType.int), 7, 159)
def qX9_back : xq := (9, 93, yX9_back, cX9_back, 2, some (FieldType.int), 4, 86)
def qX9_keep : xq := (9, 94, yX9_keep, cX9_keep, 2, some (FieldType.int), 2, 96)
def qX9_recall : xq := (9, 95, yX9_recall, cX9_recall, 2, some (FieldType.int), 3, 96)
def qX9_take : xq := (9, 96, yX9_take, cX9_take, 3, some (FieldType.int), 1, 21)
def qX9_equal : xq := (9, 97, yX9_equal, cX9_equal, 5, some (FieldType.int), 3, 64)
def qX9_row : xq := (9, 98, yX9_row, cX9_row, 4, some (FieldType.int), 2, 40)
def qX9_sample : xq := (9, 99, yX9_sample, cX9_sample, 4, some (FieldType.double), 2, 42)
def qX9_isNone : xq := (9, 100, yX9_isNone, cX9_isNone, 4, some (FieldType.boolean), 2, 42)
def qX9_order : xq := (9, 101, yX9_order, cX9_order, 2, some (FieldType.int), 1, 21)
def qX9_trace : xq := (9, 102, yX9_trace, cX9_trace, 2, some (FieldType.int), 1, 21)
def qX9_finding : xq := (9, 103, yX9_finding, cX9_finding, 2, some (FieldType.int), 0, 0)
def qX9_count : xq := (9, 104, yX9_count, cX9_count, 2, some (FieldType.int), 3, 66)
def qX9_countOfModule : xq := (9, 105, yX9_countOfModule, cX9_countOfModule, 3, some (FieldType.int), 1, 21)
def qX9_heldFloating : xq := (9, 106, yX9_heldFloating, cX9_heldFloating, 2, some (FieldType.double), 0, 0)
def qX10_init : xq := (10, 107, yX10_init, cX10_init, 1, none, 1, 20)
def qX10_isIn : xq := (10, 108, yX10_isIn, cX10_isIn, 3, some (FieldType.boolean), 0, 0)
def qX10_isModule : xq := (10, 109, yX10_isModule, cX10_isModule, 2, some (FieldType.boolean), 1, 22)
def qX10_hasIn : xq := (10, 110, yX10_hasIn, cX10_hasIn, 3, some (FieldType.boolean), 2, 43)
def qX10_module : xq := (10, 111, yX10_module, cX10_module, 3, some (FieldType.int), 1, 22)
def qX10_leads : xq := (10, 112, yX10_leads, cX10_leads, 3, some (FieldType.boolean), 0, 0)
def qX10_way : xq := (10, 113, yX10_way, cX10_way, 6, some (FieldType.int), 1, 22)
def qX10_cord : xq := (10, 114, yX10_cord, cX10_cord, 5, some (FieldType.int), 3, 65)
def qX10_from : xq := (10, 115, yX10_from, cX10_from, 3, some (FieldType.int), 3, 65)
def qX10_knob : xq := (10, 116, yX10_knob, cX10_knob, 5, some (FieldType.int), 2, 43)
def qX10_table : xq := (10, 117, yX10_table, cX10_table, 4, some (FieldType.int), 1, 22)
def qX10_write : xq := (10, 118, yX10_write, cX10_write, 4, some (FieldType.int), 1, 22)
def qX10_rowAt : xq := (10, 119, yX10_rowAt, cX10_rowAt, 3, some (FieldType.int), 0, 0)
def qX10_kindOf : xq := (10, 120, yX10_kindOf, cX10_kindOf, 2, some (FieldType.int), 1, 22)
def qX10_copyRow : xq := (10, 121, yX10_copyRow, cX10_copyRow, 6, none, 1, 22)
def qX10_noRow : xq := (10, 122, yX10_noRow, cX10_noRow, 3, none, 1, 22)
def qX10_copyState : xq := (10, 123, yX10_copyState, cX10_copyState, 4, none, 0, 0)
def qX10_fails : xq := (10, 124, yX10_fails, cX10_fails, 4, some (FieldType.boolean), 0, 0)
def qX10_hasRow : xq := (10, 125, yX10_hasRow, cX10_hasRow, 5, some (FieldType.boolean), 2, 43)
def qX10_hasSample : xq := (10, 126, yX10_hasSample, cX10_hasSample, 5, some (FieldType.boolean), 1, 23)
def qX10_sampleOf : xq := (10, 127, yX10_sampleOf, cX10_sampleOf, 4, some (FieldType.double), 0, 0)
def qX10_isNoneOf : xq := (10, 128, yX10_isNoneOf, cX10_isNoneOf, 4, some (FieldType.boolean), 1, 22)
def qX10_held : xq := (10, 129, yX10_held, cX10_held, 2, some (FieldType.double), 0, 0)
def qX10_heldTo : xq := (10, 130, yX10_heldTo, cX10_heldTo, 9, some (FieldType.double), 0, 0)
def qX10_wholeInto : xq := (10, 131, yX10_wholeInto, cX10_wholeInto, 5, some (FieldType.double), 1, 28)
def qX10_floatingInto : xq := (10, 132, yX10_floatingInto, cX10_floatingInto, 5, some (FieldType.double), 1, 28)
def qX10_source : xq := (10, 133, yX10_source, cX10_source, 9, some (FieldType.boolean), 2, 52)
def qX10_shaped : xq := (10, 134, yX10_shaped, cX10_shaped, 10, some (FieldType.double), 1, 21)
def qX10_filtered : xq := (10, 135, yX10_filtered, cX10_filtered, 7, some (FieldType.double), 1, 21)
def qX10_late : xq := (10, 136, yX10_late, cX10_late, 7, some (FieldType.double), 1, 21)
def qX10_shape : xq := (10, 137, yX10_shape, cX10_shape, 5, some (FieldType.boolean), 3, 67)
def qX10_counts : xq := (10, 138, yX10_counts, cX10_counts, 3, some (FieldType.boolean), 2, 43)
def qX10_mix : xq := (10, 139, yX10_mix, cX10_mix, 6, some (FieldType.boolean), 3, 65)
def qX10_gate : xq := (10, 140, yX10_gate, cX10_gate, 6, some (FieldType.boolean), 3, 67)
def qX10_turn : xq := (10, 141, yX10_turn, cX10_turn, 7, some (FieldType.boolean), 3, 67)
def qX10_mean : xq := (10, 142, yX10_mean, cX10_mean, 7, some (FieldType.boolean), 3, 67)
def qX10_give : xq := (10, 143, yX10_give, cX10_give, 5, none, 1, 22)
def qX10_doesSwitch : xq := (10, 144, yX10_doesSwitch, cX10_doesSwitch, 2, some (FieldType.boolean), 3, 67)
def qX10_delay : xq := (10, 145, yX10_delay, cX10_delay, 3, none, 2, 47)
def qX10_acts : xq := (10, 146, yX10_acts, cX10_acts, 4, some (FieldType.boolean), 4, 93)
def qX10_feed : xq := (10, 147, yX10_feed, cX10_feed, 3, none, 2, 47)
def qX10_hasActed : xq := (10, 148, yX10_hasActed, cX10_hasActed, 5, some (FieldType.boolean), 0, 0)
def qX10_setOrder : xq := (10, 149, yX10_setOrder, cX10_setOrder, 5, none, 1, 24)
def qX10_block : xq := (10, 150, yX10_block, cX10_block, 4, some (FieldType.int), 5, 116)
def qX10_back : xq := (10, 151, yX10_back, cX10_back, 2, some (FieldType.int), 1, 23)
def qX10_keep : xq := (10, 152, yX10_keep, cX10_keep, 3, some (FieldType.int), 1, 22)
def qX10_recall : xq := (10, 153, yX10_recall, cX10_recall, 4, some (FieldType.int), 1, 22)
def qX10_take : xq := (10, 154, yX10_take, cX10_take, 3, some (FieldType.int), 2, 43)
def qX10_takeOf : xq := (10, 155, yX10_takeOf, cX10_takeOf, 4, some (FieldType.int), 0, 0)
def qX10_hasMinus : xq := (10, 156, yX10_hasMinus, cX10_hasMinus, 2, some (FieldType.boolean), 0, 0)
def qX10_equal : xq := (10, 157, yX10_equal, cX10_equal, 11, some (FieldType.int), 1, 23)
def qX10_row : xq := (10, 158, yX10_row, cX10_row, 8, some (FieldType.int), 4, 87)
def qX10_hasGiven : xq := (10, 159, yX10_hasGiven, cX10_hasGiven, 3, some (FieldType.boolean), 2, 43)
def qX10_sample : xq := (10, 160, yX10_sample, cX10_sample, 3, some (FieldType.double), 4, 87)
def qX10_isNone : xq := (10, 161, yX10_isNone, cX10_isNone, 3, some (FieldType.boolean), 3, 65)
def qX10_order : xq := (10, 162, yX10_order, cX10_order, 2, some (FieldType.int), 2, 48)
def qX10_trace : xq := (10, 163, yX10_trace, cX10_trace, 2, some (FieldType.int), 1, 22)
def qX10_finding : xq := (10, 164, yX10_finding, cX10_finding, 2, some (FieldType.int), 1, 22)
def qX10_count : xq := (10, 165, yX10_count, cX10_count, 4, some (FieldType.int), 1, 22)
def qJ6_bitCount_0f7a4 : xq := (11, 166, yJ6_bitCount_0f7a4, cJ6_bitCount_0f7a4, 1, some (FieldType.int), 0, 0)
def qJ9_floorMod_7cf53 : xq := (12, 167, yJ9_floorMod_7cf53, cJ9_floorMod_7cf53, 3, some (FieldType.int), 0, 0)
def qJ9_max_7cf53 : xq := (12, 168, yJ9_max_7cf53, cJ9_max_7cf53, 2, some (FieldType.int), 0, 0)
def qJ9_min_7cf53 : xq := (12, 169, yJ9_min_7cf53, cJ9_min_7cf53, 2, some (FieldType.int), 0, 0)
theorem lw_at {w : Cond} (i : Nat) (h : lw_tbl[i]? = some w) (hg : goodWord w = true) : w ∈ lw_tb2 := lz_tb2 (List.mem_of_getElem? h) hg
def xlk {α : Type} : List (Nat × Nat × α) → Nat → Nat → Option α
  | [], _, _ => none
  | (a, b, v) :: l, c, i => if a = c ∧ b = i then some v else xlk l c i
theorem xlk_in {α : Type} {l : List (Nat × Nat × α)} {c i : Nat} {v : α} (h : xlk l c i = some v) : (c, i, v) ∈ l := by
  induction l with
  | nil => cases h
  | cons a l ih =>
    obtain ⟨a1, a2, a3⟩ := a
    unfold xlk at h
    split at h
    · rename_i hq
      obtain ⟨rfl, rfl⟩ := hq
      cases h
      exact List.mem_cons_self
    · exact List.mem_cons_of_mem _ (ih h)
theorem uwX0 : ∀ w ∈ u_ws RX0 TX0 8, w ∈ lw_tbl := by decide +kernel
theorem ugX0 : ∀ w ∈ u_ws RX0 TX0 8, goodWord w = true := by decide +kernel
theorem uwX1 : ∀ w ∈ u_ws RX1 TX1 4, w ∈ lw_tbl := by decide +kernel
theorem ugX1 : ∀ w ∈ u_ws RX1 TX1 4, goodWord w = true := by decide +kernel
theorem uwX2 : ∀ w ∈ u_ws RX2 TX2 2, w ∈ lw_tbl := by decide +kernel
theorem ugX2 : ∀ w ∈ u_ws RX2 TX2 2, goodWord w = true := by decide +kernel
theorem uwX3 : ∀ w ∈ u_ws RX3 TX3 5, w ∈ lw_tbl := by decide +kernel
theorem ugX3 : ∀ w ∈ u_ws RX3 TX3 5, goodWord w = true := by decide +kernel
theorem uwX4 : ∀ w ∈ u_ws RX4 TX4 4, w ∈ lw_tbl := by decide +kernel
theorem ugX4 : ∀ w ∈ u_ws RX4 TX4 4, goodWord w = true := by decide +kernel
theorem uwX5 : ∀ w ∈ u_ws RX5 TX5 8, w ∈ lw_tbl := by decide +kernel
theorem ugX5 : ∀ w ∈ u_ws RX5 TX5 8, goodWord w = true := by decide +kernel
theorem uwX6 : ∀ w ∈ u_ws RX6 TX6 2, w ∈ lw_tbl := by decide +kernel
theorem ugX6 : ∀ w ∈ u_ws RX6 TX6 2, goodWord w = true := by decide +kernel
theorem uwX7 : ∀ w ∈ u_ws RX7 TX7 2, w ∈ lw_tbl := by decide +kernel
theorem ugX7 : ∀ w ∈ u_ws RX7 TX7 2, goodWord w = true := by decide +kernel
theorem uwX8 : ∀ w ∈ u_ws RX8 TX8 7, w ∈ lw_tbl := by decide +kernel
theorem ugX8 : ∀ w ∈ u_ws RX8 TX8 7, goodWord w = true := by decide +kernel
theorem uwX9 : ∀ w ∈ u_ws RX9 TX9 6, w ∈ lw_tbl := by decide +kernel
theorem ugX9 : ∀ w ∈ u_ws RX9 TX9 6, goodWord w = true := by decide +kernel
theorem uwX10 : ∀ w ∈ u_ws RX10 TX10 31, w ∈ lw_tbl := by decide +kernel
theorem ugX10 : ∀ w ∈ u_ws RX10 TX10 31, goodWord w = true := by decide +kernel
/-- class, index: class of the field, its place, its kind, 0 not final, 1 final here, 2 final elsewhere -/
def xfL : List (Nat × Nat × Nat × Nat × Nat × Nat) := [(0, 9, 0, 5, 2, 1), (0, 15, 0, 3, 2, 1), (0, 19, 0, 4, 2, 1), (0, 23, 0, 6, 0, 0), (0, 27, 0, 7, 0, 0), (0, 30, 0, 0, 0, 0), (0, 33, 3, 0, 0, 0), (0, 46, 8, 0, 0, 2), (0, 55, 0, 1, 0, 0), (0, 58, 8, 4, 2, 2), (0, 66, 5, 0, 2, 0), (0, 78, 8, 3, 2, 2), (0, 81, 5, 6, 0, 0), (0, 84, 8, 1, 0, 2), (0, 120, 0, 2, 0, 0), (0, 133, 4, 0, 0, 2), (0, 148, 8, 2, 0, 2), (0, 154, 5, 1, 0, 0), (0, 221, 5, 2, 1, 0), (0, 227, 5, 3, 1, 0), (0, 243, 5, 4, 0, 0), (1, 9, 1, 2, 2, 1), (1, 15, 3, 0, 0, 0), (1, 25, 1, 3, 0, 0), (1, 34, 1, 1, 0, 0), (1, 43, 1, 0, 0, 0), (2, 11, 2, 0, 2, 1), (2, 16, 2, 1, 2, 1), (2, 24, 3, 0, 0, 0), (2, 34, 8, 3, 2, 2), (3, 11, 3, 1, 2, 1), (3, 17, 3, 2, 2, 1), (3, 21, 3, 3, 2, 1), (3, 25, 3, 4, 2, 1), (3, 28, 3, 0, 0, 0), (3, 32, 8, 4, 2, 2), (3, 36, 5, 0, 2, 0), (3, 64, 8, 1, 0, 2), (4, 9, 4, 0, 0, 1), (4, 15, 4, 1, 0, 1), (4, 18, 4, 2, 2, 1), (4, 26, 4, 3, 0, 0), (5, 11, 5, 7, 2, 1), (5, 17, 5, 0, 2, 0), (5, 21, 5, 1, 0, 0), (5, 25, 5, 2, 1, 0), (5, 29, 5, 3, 1, 0), (5, 32, 5, 4, 0, 0), (5, 35, 5, 5, 0, 0), (5, 38, 5, 6, 0, 0), (6, 11, 6, 0, 2, 1), (6, 16, 6, 1, 2, 1), (7, 11, 7, 1, 2, 1), (7, 17, 7, 0, 0, 0), (8, 9, 8, 3, 2, 1), (8, 18, 8, 4, 2, 1), (8, 22, 8, 6, 2, 1), (8, 26, 8, 0, 0, 1), (8, 30, 8, 1, 0, 1), (8, 33, 8, 2, 0, 1), (8, 36, 8, 5, 2, 1), (9, 12, 9, 0, 2, 1), (9, 19, 9, 1, 2, 1), (9, 26, 9, 2, 2, 1), (9, 33, 9, 3, 2, 1), (9, 42, 9, 4, 2, 1), (9, 51, 9, 5, 2, 1), (9, 84, 8, 3, 2, 2), (9, 118, 1, 1, 0, 0), (9, 153, 4, 0, 0, 2), (9, 156, 4, 1, 0, 2), (9, 179, 0, 0, 0, 0), (9, 182, 0, 1, 0, 0), (9, 185, 0, 2, 0, 0), (9, 188, 3, 0, 0, 0), (9, 194, 1, 0, 0, 0), (9, 197, 7, 0, 0, 0), (9, 201, 8, 1, 0, 2), (9, 202, 8, 4, 2, 2), (9, 206, 5, 5, 0, 0), (10, 7, 10, 1, 2, 1), (10, 13, 10, 2, 2, 1), (10, 17, 10, 4, 2, 1), (10, 20, 10, 5, 2, 1), (10, 23, 10, 6, 2, 1), (10, 26, 10, 7, 2, 1), (10, 29, 10, 8, 2, 1), (10, 32, 10, 9, 2, 1), (10, 35, 10, 13, 2, 1), (10, 38, 10, 14, 2, 1), (10, 41, 10, 20, 2, 1), (10, 44, 10, 21, 2, 1), (10, 47, 10, 23, 2, 1), (10, 50, 10, 24, 2, 1), (10, 53, 10, 25, 2, 1), (10, 56, 10, 26, 2, 1), (10, 59, 10, 27, 2, 1), (10, 62, 10, 29, 2, 1), (10, 65, 10, 30, 2, 1), (10, 68, 10, 3, 0, 0), (10, 94, 10, 16, 0, 0), (10, 97, 10, 17, 0, 0), (10, 100, 10, 18, 0, 0), (10, 128, 10, 19, 0, 0), (10, 132, 10, 28, 0, 0), (10, 210, 10, 15, 0, 0), (10, 225, 10, 11, 0, 0), (10, 228, 10, 12, 0, 0), (10, 231, 10, 10, 0, 0), (10, 234, 10, 22, 0, 0), (10, 237, 10, 0, 0, 0)]
def xfP (q : Nat × Nat × Nat × Nat × Nat × Nat) : Prop := ∃ r : vw_C, vwCl[q.2.2.1]? = some r ∧ q.2.2.1 < 11 ∧ lz_nF q.2.2.1 = r.2.2 ∧ q.2.2.2.1 < r.2.2 ∧ (∀ w ∈ u_ws r.1 r.2.1 r.2.2, w ∈ lw_tb2) ∧ Cond.fieldLink (xcls q.1) q.2.1 (r.2.1 q.2.2.2.1).1 (r.2.1 q.2.2.2.1).2.1 (r.2.1 q.2.2.2.1).2.2.1 ∈ lw_tb2 ∧ lz_kd (lz_ty q.2.2.1 q.2.2.2.1) = q.2.2.2.2.1 ∧
  (∀ j, j < r.2.2 → parseFieldDescriptor (r.2.1 j).2.2.1 = some (lz_ty q.2.2.1 j)) ∧ (∀ a, a < r.2.2 → ∀ b, b < r.2.2 → a ≠ b → (r.2.1 a).2.1 ≠ (r.2.1 b).2.1) ∧ (q.2.2.2.2.2 = 0 → (r.2.1 q.2.2.2.1).2.2.2 = false) ∧ (q.2.2.2.2.2 = 1 → (r.2.1 q.2.2.2.1).2.2.2 = true ∧ (r.2.1 q.2.2.2.1).1 = xcls q.1) ∧ (lz_ty q.2.2.1 q.2.2.2.1 = .int ∨ lz_ty q.2.2.1 q.2.2.2.1 = .double ∨ refKind (lz_ty q.2.2.1 q.2.2.2.1) = true)
theorem xf_0_9 : xfP (0, 9, 0, 5, 2, 1) := ⟨(RX0, TX0, 8), rfl, by decide, rfl, by decide, fun w h => lz_tb2 (uwX0 w h) (ugX0 w h), lw_at 198 (by decide +kernel) rfl, rfl, tyX0_ok, nmX0, (fun h => by cases h), (fun _ => ⟨rfl, rfl⟩), by decide⟩
theorem xf_0_15 : xfP (0, 15, 0, 3, 2, 1) := ⟨(RX0, TX0, 8), rfl, by decide, rfl, by decide, fun w h => lz_tb2 (uwX0 w h) (ugX0 w h), lw_at 196 (by decide +kernel) rfl, rfl, tyX0_ok, nmX0, (fun h => by cases h), (fun _ => ⟨rfl, rfl⟩), by decide⟩
theorem xf_0_19 : xfP (0, 19, 0, 4, 2, 1) := ⟨(RX0, TX0, 8), rfl, by decide, rfl, by decide, fun w h => lz_tb2 (uwX0 w h) (ugX0 w h), lw_at 197 (by decide +kernel) rfl, rfl, tyX0_ok, nmX0, (fun h => by cases h), (fun _ => ⟨rfl, rfl⟩), by decide⟩
theorem xf_0_23 : xfP (0, 23, 0, 6, 0, 0) := ⟨(RX0, TX0, 8), rfl, by decide, rfl, by decide, fun w h => lz_tb2 (uwX0 w h) (ugX0 w h), lw_at 199 (by decide +kernel) rfl, rfl, tyX0_ok, nmX0, (fun _ => rfl), (fun h => by cases h), by decide⟩
theorem xf_0_27 : xfP (0, 27, 0, 7, 0, 0) := ⟨(RX0, TX0, 8), rfl, by decide, rfl, by decide, fun w h => lz_tb2 (uwX0 w h) (ugX0 w h), lw_at 200 (by decide +kernel) rfl, rfl, tyX0_ok, nmX0, (fun _ => rfl), (fun h => by cases h), by decide⟩
theorem xf_0_30 : xfP (0, 30, 0, 0, 0, 0) := ⟨(RX0, TX0, 8), rfl, by decide, rfl, by decide, fun w h => lz_tb2 (uwX0 w h) (ugX0 w h), lw_at 190 (by decide +kernel) rfl, rfl, tyX0_ok, nmX0, (fun _ => rfl), (fun h => by cases h), by decide⟩
theorem xf_0_33 : xfP (0, 33, 3, 0, 0, 0) := ⟨(RX3, TX3, 5), rfl, by decide, rfl, by decide, fun w h => lz_tb2 (uwX3 w h) (ugX3 w h), lw_at 98 (by decide +kernel) rfl, rfl, tyX3_ok, nmX3, (fun _ => rfl), (fun h => by cases h), by decide⟩
theorem xf_0_46 : xfP (0, 46, 8, 0, 0, 2) := ⟨(RX8, TX8, 7), rfl, by decide, rfl, by decide, fun w h => lz_tb2 (uwX8 w h) (ugX8 w h), lw_at 296 (by decide +kernel) rfl, rfl, tyX8_ok, nmX8, (fun h => by cases h), (fun h => by cases h), by decide⟩
theorem xf_0_55 : xfP (0, 55, 0, 1, 0, 0) := ⟨(RX0, TX0, 8), rfl, by decide, rfl, by decide, fun w h => lz_tb2 (uwX0 w h) (ugX0 w h), lw_at 192 (by decide +kernel) rfl, rfl, tyX0_ok, nmX0, (fun _ => rfl), (fun h => by cases h), by decide⟩
theorem xf_0_58 : xfP (0, 58, 8, 4, 2, 2) := ⟨(RX8, TX8, 7), rfl, by decide, rfl, by decide, fun w h => lz_tb2 (uwX8 w h) (ugX8 w h), lw_at 308 (by decide +kernel) rfl, rfl, tyX8_ok, nmX8, (fun h => by cases h), (fun h => by cases h), by decide⟩
theorem xf_0_66 : xfP (0, 66, 5, 0, 2, 0) := ⟨(RX5, TX5, 8), rfl, by decide, rfl, by decide, fun w h => lz_tb2 (uwX5 w h) (ugX5 w h), lw_at 262 (by decide +kernel) rfl, rfl, tyX5_ok, nmX5, (fun _ => rfl), (fun h => by cases h), by decide⟩
theorem xf_0_78 : xfP (0, 78, 8, 3, 2, 2) := ⟨(RX8, TX8, 7), rfl, by decide, rfl, by decide, fun w h => lz_tb2 (uwX8 w h) (ugX8 w h), lw_at 306 (by decide +kernel) rfl, rfl, tyX8_ok, nmX8, (fun h => by cases h), (fun h => by cases h), by decide⟩
theorem xf_0_81 : xfP (0, 81, 5, 6, 0, 0) := ⟨(RX5, TX5, 8), rfl, by decide, rfl, by decide, fun w h => lz_tb2 (uwX5 w h) (ugX5 w h), lw_at 275 (by decide +kernel) rfl, rfl, tyX5_ok, nmX5, (fun _ => rfl), (fun h => by cases h), by decide⟩
theorem xf_0_84 : xfP (0, 84, 8, 1, 0, 2) := ⟨(RX8, TX8, 7), rfl, by decide, rfl, by decide, fun w h => lz_tb2 (uwX8 w h) (ugX8 w h), lw_at 298 (by decide +kernel) rfl, rfl, tyX8_ok, nmX8, (fun h => by cases h), (fun h => by cases h), by decide⟩
theorem xf_0_120 : xfP (0, 120, 0, 2, 0, 0) := ⟨(RX0, TX0, 8), rfl, by decide, rfl, by decide, fun w h => lz_tb2 (uwX0 w h) (ugX0 w h), lw_at 194 (by decide +kernel) rfl, rfl, tyX0_ok, nmX0, (fun _ => rfl), (fun h => by cases h), by decide⟩
theorem xf_0_133 : xfP (0, 133, 4, 0, 0, 2) := ⟨(RX4, TX4, 4), rfl, by decide, rfl, by decide, fun w h => lz_tb2 (uwX4 w h) (ugX4 w h), lw_at 480 (by decide +kernel) rfl, rfl, tyX4_ok, nmX4, (fun h => by cases h), (fun h => by cases h), by decide⟩
theorem xf_0_148 : xfP (0, 148, 8, 2, 0, 2) := ⟨(RX8, TX8, 7), rfl, by decide, rfl, by decide, fun w h => lz_tb2 (uwX8 w h) (ugX8 w h), lw_at 302 (by decide +kernel) rfl, rfl, tyX8_ok, nmX8, (fun h => by cases h), (fun h => by cases h), by decide⟩
theorem xf_0_154 : xfP (0, 154, 5, 1, 0, 0) := ⟨(RX5, TX5, 8), rfl, by decide, rfl, by decide, fun w h => lz_tb2 (uwX5 w h) (ugX5 w h), lw_at 265 (by decide +kernel) rfl, rfl, tyX5_ok, nmX5, (fun _ => rfl), (fun h => by cases h), by decide⟩
theorem xf_0_221 : xfP (0, 221, 5, 2, 1, 0) := ⟨(RX5, TX5, 8), rfl, by decide, rfl, by decide, fun w h => lz_tb2 (uwX5 w h) (ugX5 w h), lw_at 267 (by decide +kernel) rfl, rfl, tyX5_ok, nmX5, (fun _ => rfl), (fun h => by cases h), by decide⟩
theorem xf_0_227 : xfP (0, 227, 5, 3, 1, 0) := ⟨(RX5, TX5, 8), rfl, by decide, rfl, by decide, fun w h => lz_tb2 (uwX5 w h) (ugX5 w h), lw_at 269 (by decide +kernel) rfl, rfl, tyX5_ok, nmX5, (fun _ => rfl), (fun h => by cases h), by decide⟩
theorem xf_0_243 : xfP (0, 243, 5, 4, 0, 0) := ⟨(RX5, TX5, 8), rfl, by decide, rfl, by decide, fun w h => lz_tb2 (uwX5 w h) (ugX5 w h), lw_at 271 (by decide +kernel) rfl, rfl, tyX5_ok, nmX5, (fun _ => rfl), (fun h => by cases h), by decide⟩
theorem xf_1_9 : xfP (1, 9, 1, 2, 2, 1) := ⟨(RX1, TX1, 4), rfl, by decide, rfl, by decide, fun w h => lz_tb2 (uwX1 w h) (ugX1 w h), lw_at 173 (by decide +kernel) rfl, rfl, tyX1_ok, nmX1, (fun h => by cases h), (fun _ => ⟨rfl, rfl⟩), by decide⟩
theorem xf_1_15 : xfP (1, 15, 3, 0, 0, 0) := ⟨(RX3, TX3, 5), rfl, by decide, rfl, by decide, fun w h => lz_tb2 (uwX3 w h) (ugX3 w h), lw_at 97 (by decide +kernel) rfl, rfl, tyX3_ok, nmX3, (fun _ => rfl), (fun h => by cases h), by decide⟩
theorem xf_1_25 : xfP (1, 25, 1, 3, 0, 0) := ⟨(RX1, TX1, 4), rfl, by decide, rfl, by decide, fun w h => lz_tb2 (uwX1 w h) (ugX1 w h), lw_at 174 (by decide +kernel) rfl, rfl, tyX1_ok, nmX1, (fun _ => rfl), (fun h => by cases h), by decide⟩
theorem xf_1_34 : xfP (1, 34, 1, 1, 0, 0) := ⟨(RX1, TX1, 4), rfl, by decide, rfl, by decide, fun w h => lz_tb2 (uwX1 w h) (ugX1 w h), lw_at 171 (by decide +kernel) rfl, rfl, tyX1_ok, nmX1, (fun _ => rfl), (fun h => by cases h), by decide⟩
theorem xf_1_43 : xfP (1, 43, 1, 0, 0, 0) := ⟨(RX1, TX1, 4), rfl, by decide, rfl, by decide, fun w h => lz_tb2 (uwX1 w h) (ugX1 w h), lw_at 169 (by decide +kernel) rfl, rfl, tyX1_ok, nmX1, (fun _ => rfl), (fun h => by cases h), by decide⟩
theorem xf_2_11 : xfP (2, 11, 2, 0, 2, 1) := ⟨(RX2, TX2, 2), rfl, by decide, rfl, by decide, fun w h => lz_tb2 (uwX2 w h) (ugX2 w h), lw_at 140 (by decide +kernel) rfl, rfl, tyX2_ok, nmX2, (fun h => by cases h), (fun _ => ⟨rfl, rfl⟩), by decide⟩
theorem xf_2_16 : xfP (2, 16, 2, 1, 2, 1) := ⟨(RX2, TX2, 2), rfl, by decide, rfl, by decide, fun w h => lz_tb2 (uwX2 w h) (ugX2 w h), lw_at 141 (by decide +kernel) rfl, rfl, tyX2_ok, nmX2, (fun h => by cases h), (fun _ => ⟨rfl, rfl⟩), by decide⟩
theorem xf_2_24 : xfP (2, 24, 3, 0, 0, 0) := ⟨(RX3, TX3, 5), rfl, by decide, rfl, by decide, fun w h => lz_tb2 (uwX3 w h) (ugX3 w h), lw_at 99 (by decide +kernel) rfl, rfl, tyX3_ok, nmX3, (fun _ => rfl), (fun h => by cases h), by decide⟩
theorem xf_2_34 : xfP (2, 34, 8, 3, 2, 2) := ⟨(RX8, TX8, 7), rfl, by decide, rfl, by decide, fun w h => lz_tb2 (uwX8 w h) (ugX8 w h), lw_at 304 (by decide +kernel) rfl, rfl, tyX8_ok, nmX8, (fun h => by cases h), (fun h => by cases h), by decide⟩
theorem xf_3_11 : xfP (3, 11, 3, 1, 2, 1) := ⟨(RX3, TX3, 5), rfl, by decide, rfl, by decide, fun w h => lz_tb2 (uwX3 w h) (ugX3 w h), lw_at 101 (by decide +kernel) rfl, rfl, tyX3_ok, nmX3, (fun h => by cases h), (fun _ => ⟨rfl, rfl⟩), by decide⟩
theorem xf_3_17 : xfP (3, 17, 3, 2, 2, 1) := ⟨(RX3, TX3, 5), rfl, by decide, rfl, by decide, fun w h => lz_tb2 (uwX3 w h) (ugX3 w h), lw_at 102 (by decide +kernel) rfl, rfl, tyX3_ok, nmX3, (fun h => by cases h), (fun _ => ⟨rfl, rfl⟩), by decide⟩
theorem xf_3_21 : xfP (3, 21, 3, 3, 2, 1) := ⟨(RX3, TX3, 5), rfl, by decide, rfl, by decide, fun w h => lz_tb2 (uwX3 w h) (ugX3 w h), lw_at 103 (by decide +kernel) rfl, rfl, tyX3_ok, nmX3, (fun h => by cases h), (fun _ => ⟨rfl, rfl⟩), by decide⟩
theorem xf_3_25 : xfP (3, 25, 3, 4, 2, 1) := ⟨(RX3, TX3, 5), rfl, by decide, rfl, by decide, fun w h => lz_tb2 (uwX3 w h) (ugX3 w h), lw_at 104 (by decide +kernel) rfl, rfl, tyX3_ok, nmX3, (fun h => by cases h), (fun _ => ⟨rfl, rfl⟩), by decide⟩
theorem xf_3_28 : xfP (3, 28, 3, 0, 0, 0) := ⟨(RX3, TX3, 5), rfl, by decide, rfl, by decide, fun w h => lz_tb2 (uwX3 w h) (ugX3 w h), lw_at 96 (by decide +kernel) rfl, rfl, tyX3_ok, nmX3, (fun _ => rfl), (fun h => by cases h), by decide⟩
theorem xf_3_32 : xfP (3, 32, 8, 4, 2, 2) := ⟨(RX8, TX8, 7), rfl, by decide, rfl, by decide, fun w h => lz_tb2 (uwX8 w h) (ugX8 w h), lw_at 309 (by decide +kernel) rfl, rfl, tyX8_ok, nmX8, (fun h => by cases h), (fun h => by cases h), by decide⟩
theorem xf_3_36 : xfP (3, 36, 5, 0, 2, 0) := ⟨(RX5, TX5, 8), rfl, by decide, rfl, by decide, fun w h => lz_tb2 (uwX5 w h) (ugX5 w h), lw_at 263 (by decide +kernel) rfl, rfl, tyX5_ok, nmX5, (fun _ => rfl), (fun h => by cases h), by decide⟩
theorem xf_3_64 : xfP (3, 64, 8, 1, 0, 2) := ⟨(RX8, TX8, 7), rfl, by decide, rfl, by decide, fun w h => lz_tb2 (uwX8 w h) (ugX8 w h), lw_at 299 (by decide +kernel) rfl, rfl, tyX8_ok, nmX8, (fun h => by cases h), (fun h => by cases h), by decide⟩
theorem xf_4_9 : xfP (4, 9, 4, 0, 0, 1) := ⟨(RX4, TX4, 4), rfl, by decide, rfl, by decide, fun w h => lz_tb2 (uwX4 w h) (ugX4 w h), lw_at 479 (by decide +kernel) rfl, rfl, tyX4_ok, nmX4, (fun h => by cases h), (fun _ => ⟨rfl, rfl⟩), by decide⟩
theorem xf_4_15 : xfP (4, 15, 4, 1, 0, 1) := ⟨(RX4, TX4, 4), rfl, by decide, rfl, by decide, fun w h => lz_tb2 (uwX4 w h) (ugX4 w h), lw_at 482 (by decide +kernel) rfl, rfl, tyX4_ok, nmX4, (fun h => by cases h), (fun _ => ⟨rfl, rfl⟩), by decide⟩
theorem xf_4_18 : xfP (4, 18, 4, 2, 2, 1) := ⟨(RX4, TX4, 4), rfl, by decide, rfl, by decide, fun w h => lz_tb2 (uwX4 w h) (ugX4 w h), lw_at 484 (by decide +kernel) rfl, rfl, tyX4_ok, nmX4, (fun h => by cases h), (fun _ => ⟨rfl, rfl⟩), by decide⟩
theorem xf_4_26 : xfP (4, 26, 4, 3, 0, 0) := ⟨(RX4, TX4, 4), rfl, by decide, rfl, by decide, fun w h => lz_tb2 (uwX4 w h) (ugX4 w h), lw_at 485 (by decide +kernel) rfl, rfl, tyX4_ok, nmX4, (fun _ => rfl), (fun h => by cases h), by decide⟩
theorem xf_5_11 : xfP (5, 11, 5, 7, 2, 1) := ⟨(RX5, TX5, 8), rfl, by decide, rfl, by decide, fun w h => lz_tb2 (uwX5 w h) (ugX5 w h), lw_at 276 (by decide +kernel) rfl, rfl, tyX5_ok, nmX5, (fun h => by cases h), (fun _ => ⟨rfl, rfl⟩), by decide⟩
theorem xf_5_17 : xfP (5, 17, 5, 0, 2, 0) := ⟨(RX5, TX5, 8), rfl, by decide, rfl, by decide, fun w h => lz_tb2 (uwX5 w h) (ugX5 w h), lw_at 261 (by decide +kernel) rfl, rfl, tyX5_ok, nmX5, (fun _ => rfl), (fun h => by cases h), by decide⟩
theorem xf_5_21 : xfP (5, 21, 5, 1, 0, 0) := ⟨(RX5, TX5, 8), rfl, by decide, rfl, by decide, fun w h => lz_tb2 (uwX5 w h) (ugX5 w h), lw_at 264 (by decide +kernel) rfl, rfl, tyX5_ok, nmX5, (fun _ => rfl), (fun h => by cases h), by decide⟩
theorem xf_5_25 : xfP (5, 25, 5, 2, 1, 0) := ⟨(RX5, TX5, 8), rfl, by decide, rfl, by decide, fun w h => lz_tb2 (uwX5 w h) (ugX5 w h), lw_at 266 (by decide +kernel) rfl, rfl, tyX5_ok, nmX5, (fun _ => rfl), (fun h => by cases h), by decide⟩
theorem xf_5_29 : xfP (5, 29, 5, 3, 1, 0) := ⟨(RX5, TX5, 8), rfl, by decide, rfl, by decide, fun w h => lz_tb2 (uwX5 w h) (ugX5 w h), lw_at 268 (by decide +kernel) rfl, rfl, tyX5_ok, nmX5, (fun _ => rfl), (fun h => by cases h), by decide⟩
theorem xf_5_32 : xfP (5, 32, 5, 4, 0, 0) := ⟨(RX5, TX5, 8), rfl, by decide, rfl, by decide, fun w h => lz_tb2 (uwX5 w h) (ugX5 w h), lw_at 270 (by decide +kernel) rfl, rfl, tyX5_ok, nmX5, (fun _ => rfl), (fun h => by cases h), by decide⟩
theorem xf_5_35 : xfP (5, 35, 5, 5, 0, 0) := ⟨(RX5, TX5, 8), rfl, by decide, rfl, by decide, fun w h => lz_tb2 (uwX5 w h) (ugX5 w h), lw_at 272 (by decide +kernel) rfl, rfl, tyX5_ok, nmX5, (fun _ => rfl), (fun h => by cases h), by decide⟩
theorem xf_5_38 : xfP (5, 38, 5, 6, 0, 0) := ⟨(RX5, TX5, 8), rfl, by decide, rfl, by decide, fun w h => lz_tb2 (uwX5 w h) (ugX5 w h), lw_at 274 (by decide +kernel) rfl, rfl, tyX5_ok, nmX5, (fun _ => rfl), (fun h => by cases h), by decide⟩
theorem xf_6_11 : xfP (6, 11, 6, 0, 2, 1) := ⟨(RX6, TX6, 2), rfl, by decide, rfl, by decide, fun w h => lz_tb2 (uwX6 w h) (ugX6 w h), lw_at 126 (by decide +kernel) rfl, rfl, tyX6_ok, nmX6, (fun h => by cases h), (fun _ => ⟨rfl, rfl⟩), by decide⟩
theorem xf_6_16 : xfP (6, 16, 6, 1, 2, 1) := ⟨(RX6, TX6, 2), rfl, by decide, rfl, by decide, fun w h => lz_tb2 (uwX6 w h) (ugX6 w h), lw_at 127 (by decide +kernel) rfl, rfl, tyX6_ok, nmX6, (fun h => by cases h), (fun _ => ⟨rfl, rfl⟩), by decide⟩
theorem xf_7_11 : xfP (7, 11, 7, 1, 2, 1) := ⟨(RX7, TX7, 2), rfl, by decide, rfl, by decide, fun w h => lz_tb2 (uwX7 w h) (ugX7 w h), lw_at 157 (by decide +kernel) rfl, rfl, tyX7_ok, nmX7, (fun h => by cases h), (fun _ => ⟨rfl, rfl⟩), by decide⟩
theorem xf_7_17 : xfP (7, 17, 7, 0, 0, 0) := ⟨(RX7, TX7, 2), rfl, by decide, rfl, by decide, fun w h => lz_tb2 (uwX7 w h) (ugX7 w h), lw_at 155 (by decide +kernel) rfl, rfl, tyX7_ok, nmX7, (fun _ => rfl), (fun h => by cases h), by decide⟩
theorem xf_8_9 : xfP (8, 9, 8, 3, 2, 1) := ⟨(RX8, TX8, 7), rfl, by decide, rfl, by decide, fun w h => lz_tb2 (uwX8 w h) (ugX8 w h), lw_at 303 (by decide +kernel) rfl, rfl, tyX8_ok, nmX8, (fun h => by cases h), (fun _ => ⟨rfl, rfl⟩), by decide⟩
theorem xf_8_18 : xfP (8, 18, 8, 4, 2, 1) := ⟨(RX8, TX8, 7), rfl, by decide, rfl, by decide, fun w h => lz_tb2 (uwX8 w h) (ugX8 w h), lw_at 307 (by decide +kernel) rfl, rfl, tyX8_ok, nmX8, (fun h => by cases h), (fun _ => ⟨rfl, rfl⟩), by decide⟩
theorem xf_8_22 : xfP (8, 22, 8, 6, 2, 1) := ⟨(RX8, TX8, 7), rfl, by decide, rfl, by decide, fun w h => lz_tb2 (uwX8 w h) (ugX8 w h), lw_at 312 (by decide +kernel) rfl, rfl, tyX8_ok, nmX8, (fun h => by cases h), (fun _ => ⟨rfl, rfl⟩), by decide⟩
theorem xf_8_26 : xfP (8, 26, 8, 0, 0, 1) := ⟨(RX8, TX8, 7), rfl, by decide, rfl, by decide, fun w h => lz_tb2 (uwX8 w h) (ugX8 w h), lw_at 295 (by decide +kernel) rfl, rfl, tyX8_ok, nmX8, (fun h => by cases h), (fun _ => ⟨rfl, rfl⟩), by decide⟩
theorem xf_8_30 : xfP (8, 30, 8, 1, 0, 1) := ⟨(RX8, TX8, 7), rfl, by decide, rfl, by decide, fun w h => lz_tb2 (uwX8 w h) (ugX8 w h), lw_at 297 (by decide +kernel) rfl, rfl, tyX8_ok, nmX8, (fun h => by cases h), (fun _ => ⟨rfl, rfl⟩), by decide⟩
theorem xf_8_33 : xfP (8, 33, 8, 2, 0, 1) := ⟨(RX8, TX8, 7), rfl, by decide, rfl, by decide, fun w h => lz_tb2 (uwX8 w h) (ugX8 w h), lw_at 301 (by decide +kernel) rfl, rfl, tyX8_ok, nmX8, (fun h => by cases h), (fun _ => ⟨rfl, rfl⟩), by decide⟩
theorem xf_8_36 : xfP (8, 36, 8, 5, 2, 1) := ⟨(RX8, TX8, 7), rfl, by decide, rfl, by decide, fun w h => lz_tb2 (uwX8 w h) (ugX8 w h), lw_at 311 (by decide +kernel) rfl, rfl, tyX8_ok, nmX8, (fun h => by cases h), (fun _ => ⟨rfl, rfl⟩), by decide⟩
theorem xf_9_12 : xfP (9, 12, 9, 0, 2, 1) := ⟨(RX9, TX9, 6), rfl, by decide, rfl, by decide, fun w h => lz_tb2 (uwX9 w h) (ugX9 w h), lw_at 218 (by decide +kernel) rfl, rfl, tyX9_ok, nmX9, (fun h => by cases h), (fun _ => ⟨rfl, rfl⟩), by decide⟩
theorem xf_9_19 : xfP (9, 19, 9, 1, 2, 1) := ⟨(RX9, TX9, 6), rfl, by decide, rfl, by decide, fun w h => lz_tb2 (uwX9 w h) (ugX9 w h), lw_at 219 (by decide +kernel) rfl, rfl, tyX9_ok, nmX9, (fun h => by cases h), (fun _ => ⟨rfl, rfl⟩), by decide⟩
theorem xf_9_26 : xfP (9, 26, 9, 2, 2, 1) := ⟨(RX9, TX9, 6), rfl, by decide, rfl, by decide, fun w h => lz_tb2 (uwX9 w h) (ugX9 w h), lw_at 220 (by decide +kernel) rfl, rfl, tyX9_ok, nmX9, (fun h => by cases h), (fun _ => ⟨rfl, rfl⟩), by decide⟩
theorem xf_9_33 : xfP (9, 33, 9, 3, 2, 1) := ⟨(RX9, TX9, 6), rfl, by decide, rfl, by decide, fun w h => lz_tb2 (uwX9 w h) (ugX9 w h), lw_at 221 (by decide +kernel) rfl, rfl, tyX9_ok, nmX9, (fun h => by cases h), (fun _ => ⟨rfl, rfl⟩), by decide⟩
theorem xf_9_42 : xfP (9, 42, 9, 4, 2, 1) := ⟨(RX9, TX9, 6), rfl, by decide, rfl, by decide, fun w h => lz_tb2 (uwX9 w h) (ugX9 w h), lw_at 222 (by decide +kernel) rfl, rfl, tyX9_ok, nmX9, (fun h => by cases h), (fun _ => ⟨rfl, rfl⟩), by decide⟩
theorem xf_9_51 : xfP (9, 51, 9, 5, 2, 1) := ⟨(RX9, TX9, 6), rfl, by decide, rfl, by decide, fun w h => lz_tb2 (uwX9 w h) (ugX9 w h), lw_at 223 (by decide +kernel) rfl, rfl, tyX9_ok, nmX9, (fun h => by cases h), (fun _ => ⟨rfl, rfl⟩), by decide⟩
theorem xf_9_84 : xfP (9, 84, 8, 3, 2, 2) := ⟨(RX8, TX8, 7), rfl, by decide, rfl, by decide, fun w h => lz_tb2 (uwX8 w h) (ugX8 w h), lw_at 305 (by decide +kernel) rfl, rfl, tyX8_ok, nmX8, (fun h => by cases h), (fun h => by cases h), by decide⟩
theorem xf_9_118 : xfP (9, 118, 1, 1, 0, 0) := ⟨(RX1, TX1, 4), rfl, by decide, rfl, by decide, fun w h => lz_tb2 (uwX1 w h) (ugX1 w h), lw_at 172 (by decide +kernel) rfl, rfl, tyX1_ok, nmX1, (fun _ => rfl), (fun h => by cases h), by decide⟩
theorem xf_9_153 : xfP (9, 153, 4, 0, 0, 2) := ⟨(RX4, TX4, 4), rfl, by decide, rfl, by decide, fun w h => lz_tb2 (uwX4 w h) (ugX4 w h), lw_at 481 (by decide +kernel) rfl, rfl, tyX4_ok, nmX4, (fun h => by cases h), (fun h => by cases h), by decide⟩
theorem xf_9_156 : xfP (9, 156, 4, 1, 0, 2) := ⟨(RX4, TX4, 4), rfl, by decide, rfl, by decide, fun w h => lz_tb2 (uwX4 w h) (ugX4 w h), lw_at 483 (by decide +kernel) rfl, rfl, tyX4_ok, nmX4, (fun h => by cases h), (fun h => by cases h), by decide⟩
theorem xf_9_179 : xfP (9, 179, 0, 0, 0, 0) := ⟨(RX0, TX0, 8), rfl, by decide, rfl, by decide, fun w h => lz_tb2 (uwX0 w h) (ugX0 w h), lw_at 191 (by decide +kernel) rfl, rfl, tyX0_ok, nmX0, (fun _ => rfl), (fun h => by cases h), by decide⟩
theorem xf_9_182 : xfP (9, 182, 0, 1, 0, 0) := ⟨(RX0, TX0, 8), rfl, by decide, rfl, by decide, fun w h => lz_tb2 (uwX0 w h) (ugX0 w h), lw_at 193 (by decide +kernel) rfl, rfl, tyX0_ok, nmX0, (fun _ => rfl), (fun h => by cases h), by decide⟩
theorem xf_9_185 : xfP (9, 185, 0, 2, 0, 0) := ⟨(RX0, TX0, 8), rfl, by decide, rfl, by decide, fun w h => lz_tb2 (uwX0 w h) (ugX0 w h), lw_at 195 (by decide +kernel) rfl, rfl, tyX0_ok, nmX0, (fun _ => rfl), (fun h => by cases h), by decide⟩
theorem xf_9_188 : xfP (9, 188, 3, 0, 0, 0) := ⟨(RX3, TX3, 5), rfl, by decide, rfl, by decide, fun w h => lz_tb2 (uwX3 w h) (ugX3 w h), lw_at 100 (by decide +kernel) rfl, rfl, tyX3_ok, nmX3, (fun _ => rfl), (fun h => by cases h), by decide⟩
theorem xf_9_194 : xfP (9, 194, 1, 0, 0, 0) := ⟨(RX1, TX1, 4), rfl, by decide, rfl, by decide, fun w h => lz_tb2 (uwX1 w h) (ugX1 w h), lw_at 170 (by decide +kernel) rfl, rfl, tyX1_ok, nmX1, (fun _ => rfl), (fun h => by cases h), by decide⟩
theorem xf_9_197 : xfP (9, 197, 7, 0, 0, 0) := ⟨(RX7, TX7, 2), rfl, by decide, rfl, by decide, fun w h => lz_tb2 (uwX7 w h) (ugX7 w h), lw_at 156 (by decide +kernel) rfl, rfl, tyX7_ok, nmX7, (fun _ => rfl), (fun h => by cases h), by decide⟩
theorem xf_9_201 : xfP (9, 201, 8, 1, 0, 2) := ⟨(RX8, TX8, 7), rfl, by decide, rfl, by decide, fun w h => lz_tb2 (uwX8 w h) (ugX8 w h), lw_at 300 (by decide +kernel) rfl, rfl, tyX8_ok, nmX8, (fun h => by cases h), (fun h => by cases h), by decide⟩
theorem xf_9_202 : xfP (9, 202, 8, 4, 2, 2) := ⟨(RX8, TX8, 7), rfl, by decide, rfl, by decide, fun w h => lz_tb2 (uwX8 w h) (ugX8 w h), lw_at 310 (by decide +kernel) rfl, rfl, tyX8_ok, nmX8, (fun h => by cases h), (fun h => by cases h), by decide⟩
theorem xf_9_206 : xfP (9, 206, 5, 5, 0, 0) := ⟨(RX5, TX5, 8), rfl, by decide, rfl, by decide, fun w h => lz_tb2 (uwX5 w h) (ugX5 w h), lw_at 273 (by decide +kernel) rfl, rfl, tyX5_ok, nmX5, (fun _ => rfl), (fun h => by cases h), by decide⟩
theorem xf_10_7 : xfP (10, 7, 10, 1, 2, 1) := ⟨(RX10, TX10, 31), rfl, by decide, rfl, by decide, fun w h => lz_tb2 (uwX10 w h) (ugX10 w h), lw_at 780 (by decide +kernel) rfl, rfl, tyX10_ok, nmX10, (fun h => by cases h), (fun _ => ⟨rfl, rfl⟩), by decide⟩
theorem xf_10_13 : xfP (10, 13, 10, 2, 2, 1) := ⟨(RX10, TX10, 31), rfl, by decide, rfl, by decide, fun w h => lz_tb2 (uwX10 w h) (ugX10 w h), lw_at 781 (by decide +kernel) rfl, rfl, tyX10_ok, nmX10, (fun h => by cases h), (fun _ => ⟨rfl, rfl⟩), by decide⟩
theorem xf_10_17 : xfP (10, 17, 10, 4, 2, 1) := ⟨(RX10, TX10, 31), rfl, by decide, rfl, by decide, fun w h => lz_tb2 (uwX10 w h) (ugX10 w h), lw_at 783 (by decide +kernel) rfl, rfl, tyX10_ok, nmX10, (fun h => by cases h), (fun _ => ⟨rfl, rfl⟩), by decide⟩
theorem xf_10_20 : xfP (10, 20, 10, 5, 2, 1) := ⟨(RX10, TX10, 31), rfl, by decide, rfl, by decide, fun w h => lz_tb2 (uwX10 w h) (ugX10 w h), lw_at 784 (by decide +kernel) rfl, rfl, tyX10_ok, nmX10, (fun h => by cases h), (fun _ => ⟨rfl, rfl⟩), by decide⟩
theorem xf_10_23 : xfP (10, 23, 10, 6, 2, 1) := ⟨(RX10, TX10, 31), rfl, by decide, rfl, by decide, fun w h => lz_tb2 (uwX10 w h) (ugX10 w h), lw_at 785 (by decide +kernel) rfl, rfl, tyX10_ok, nmX10, (fun h => by cases h), (fun _ => ⟨rfl, rfl⟩), by decide⟩
theorem xf_10_26 : xfP (10, 26, 10, 7, 2, 1) := ⟨(RX10, TX10, 31), rfl, by decide, rfl, by decide, fun w h => lz_tb2 (uwX10 w h) (ugX10 w h), lw_at 786 (by decide +kernel) rfl, rfl, tyX10_ok, nmX10, (fun h => by cases h), (fun _ => ⟨rfl, rfl⟩), by decide⟩
theorem xf_10_29 : xfP (10, 29, 10, 8, 2, 1) := ⟨(RX10, TX10, 31), rfl, by decide, rfl, by decide, fun w h => lz_tb2 (uwX10 w h) (ugX10 w h), lw_at 787 (by decide +kernel) rfl, rfl, tyX10_ok, nmX10, (fun h => by cases h), (fun _ => ⟨rfl, rfl⟩), by decide⟩
theorem xf_10_32 : xfP (10, 32, 10, 9, 2, 1) := ⟨(RX10, TX10, 31), rfl, by decide, rfl, by decide, fun w h => lz_tb2 (uwX10 w h) (ugX10 w h), lw_at 788 (by decide +kernel) rfl, rfl, tyX10_ok, nmX10, (fun h => by cases h), (fun _ => ⟨rfl, rfl⟩), by decide⟩
theorem xf_10_35 : xfP (10, 35, 10, 13, 2, 1) := ⟨(RX10, TX10, 31), rfl, by decide, rfl, by decide, fun w h => lz_tb2 (uwX10 w h) (ugX10 w h), lw_at 792 (by decide +kernel) rfl, rfl, tyX10_ok, nmX10, (fun h => by cases h), (fun _ => ⟨rfl, rfl⟩), by decide⟩
theorem xf_10_38 : xfP (10, 38, 10, 14, 2, 1) := ⟨(RX10, TX10, 31), rfl, by decide, rfl, by decide, fun w h => lz_tb2 (uwX10 w h) (ugX10 w h), lw_at 793 (by decide +kernel) rfl, rfl, tyX10_ok, nmX10, (fun h => by cases h), (fun _ => ⟨rfl, rfl⟩), by decide⟩
theorem xf_10_41 : xfP (10, 41, 10, 20, 2, 1) := ⟨(RX10, TX10, 31), rfl, by decide, rfl, by decide, fun w h => lz_tb2 (uwX10 w h) (ugX10 w h), lw_at 799 (by decide +kernel) rfl, rfl, tyX10_ok, nmX10, (fun h => by cases h), (fun _ => ⟨rfl, rfl⟩), by decide⟩
theorem xf_10_44 : xfP (10, 44, 10, 21, 2, 1) := ⟨(RX10, TX10, 31), rfl, by decide, rfl, by decide, fun w h => lz_tb2 (uwX10 w h) (ugX10 w h), lw_at 800 (by decide +kernel) rfl, rfl, tyX10_ok, nmX10, (fun h => by cases h), (fun _ => ⟨rfl, rfl⟩), by decide⟩
theorem xf_10_47 : xfP (10, 47, 10, 23, 2, 1) := ⟨(RX10, TX10, 31), rfl, by decide, rfl, by decide, fun w h => lz_tb2 (uwX10 w h) (ugX10 w h), lw_at 802 (by decide +kernel) rfl, rfl, tyX10_ok, nmX10, (fun h => by cases h), (fun _ => ⟨rfl, rfl⟩), by decide⟩
theorem xf_10_50 : xfP (10, 50, 10, 24, 2, 1) := ⟨(RX10, TX10, 31), rfl, by decide, rfl, by decide, fun w h => lz_tb2 (uwX10 w h) (ugX10 w h), lw_at 803 (by decide +kernel) rfl, rfl, tyX10_ok, nmX10, (fun h => by cases h), (fun _ => ⟨rfl, rfl⟩), by decide⟩
theorem xf_10_53 : xfP (10, 53, 10, 25, 2, 1) := ⟨(RX10, TX10, 31), rfl, by decide, rfl, by decide, fun w h => lz_tb2 (uwX10 w h) (ugX10 w h), lw_at 804 (by decide +kernel) rfl, rfl, tyX10_ok, nmX10, (fun h => by cases h), (fun _ => ⟨rfl, rfl⟩), by decide⟩
theorem xf_10_56 : xfP (10, 56, 10, 26, 2, 1) := ⟨(RX10, TX10, 31), rfl, by decide, rfl, by decide, fun w h => lz_tb2 (uwX10 w h) (ugX10 w h), lw_at 805 (by decide +kernel) rfl, rfl, tyX10_ok, nmX10, (fun h => by cases h), (fun _ => ⟨rfl, rfl⟩), by decide⟩
theorem xf_10_59 : xfP (10, 59, 10, 27, 2, 1) := ⟨(RX10, TX10, 31), rfl, by decide, rfl, by decide, fun w h => lz_tb2 (uwX10 w h) (ugX10 w h), lw_at 806 (by decide +kernel) rfl, rfl, tyX10_ok, nmX10, (fun h => by cases h), (fun _ => ⟨rfl, rfl⟩), by decide⟩
theorem xf_10_62 : xfP (10, 62, 10, 29, 2, 1) := ⟨(RX10, TX10, 31), rfl, by decide, rfl, by decide, fun w h => lz_tb2 (uwX10 w h) (ugX10 w h), lw_at 808 (by decide +kernel) rfl, rfl, tyX10_ok, nmX10, (fun h => by cases h), (fun _ => ⟨rfl, rfl⟩), by decide⟩
theorem xf_10_65 : xfP (10, 65, 10, 30, 2, 1) := ⟨(RX10, TX10, 31), rfl, by decide, rfl, by decide, fun w h => lz_tb2 (uwX10 w h) (ugX10 w h), lw_at 809 (by decide +kernel) rfl, rfl, tyX10_ok, nmX10, (fun h => by cases h), (fun _ => ⟨rfl, rfl⟩), by decide⟩
theorem xf_10_68 : xfP (10, 68, 10, 3, 0, 0) := ⟨(RX10, TX10, 31), rfl, by decide, rfl, by decide, fun w h => lz_tb2 (uwX10 w h) (ugX10 w h), lw_at 782 (by decide +kernel) rfl, rfl, tyX10_ok, nmX10, (fun _ => rfl), (fun h => by cases h), by decide⟩
theorem xf_10_94 : xfP (10, 94, 10, 16, 0, 0) := ⟨(RX10, TX10, 31), rfl, by decide, rfl, by decide, fun w h => lz_tb2 (uwX10 w h) (ugX10 w h), lw_at 795 (by decide +kernel) rfl, rfl, tyX10_ok, nmX10, (fun _ => rfl), (fun h => by cases h), by decide⟩
theorem xf_10_97 : xfP (10, 97, 10, 17, 0, 0) := ⟨(RX10, TX10, 31), rfl, by decide, rfl, by decide, fun w h => lz_tb2 (uwX10 w h) (ugX10 w h), lw_at 796 (by decide +kernel) rfl, rfl, tyX10_ok, nmX10, (fun _ => rfl), (fun h => by cases h), by decide⟩
theorem xf_10_100 : xfP (10, 100, 10, 18, 0, 0) := ⟨(RX10, TX10, 31), rfl, by decide, rfl, by decide, fun w h => lz_tb2 (uwX10 w h) (ugX10 w h), lw_at 797 (by decide +kernel) rfl, rfl, tyX10_ok, nmX10, (fun _ => rfl), (fun h => by cases h), by decide⟩
theorem xf_10_128 : xfP (10, 128, 10, 19, 0, 0) := ⟨(RX10, TX10, 31), rfl, by decide, rfl, by decide, fun w h => lz_tb2 (uwX10 w h) (ugX10 w h), lw_at 798 (by decide +kernel) rfl, rfl, tyX10_ok, nmX10, (fun _ => rfl), (fun h => by cases h), by decide⟩
theorem xf_10_132 : xfP (10, 132, 10, 28, 0, 0) := ⟨(RX10, TX10, 31), rfl, by decide, rfl, by decide, fun w h => lz_tb2 (uwX10 w h) (ugX10 w h), lw_at 807 (by decide +kernel) rfl, rfl, tyX10_ok, nmX10, (fun _ => rfl), (fun h => by cases h), by decide⟩
theorem xf_10_210 : xfP (10, 210, 10, 15, 0, 0) := ⟨(RX10, TX10, 31), rfl, by decide, rfl, by decide, fun w h => lz_tb2 (uwX10 w h) (ugX10 w h), lw_at 794 (by decide +kernel) rfl, rfl, tyX10_ok, nmX10, (fun _ => rfl), (fun h => by cases h), by decide⟩
theorem xf_10_225 : xfP (10, 225, 10, 11, 0, 0) := ⟨(RX10, TX10, 31), rfl, by decide, rfl, by decide, fun w h => lz_tb2 (uwX10 w h) (ugX10 w h), lw_at 790 (by decide +kernel) rfl, rfl, tyX10_ok, nmX10, (fun _ => rfl), (fun h => by cases h), by decide⟩
theorem xf_10_228 : xfP (10, 228, 10, 12, 0, 0) := ⟨(RX10, TX10, 31), rfl, by decide, rfl, by decide, fun w h => lz_tb2 (uwX10 w h) (ugX10 w h), lw_at 791 (by decide +kernel) rfl, rfl, tyX10_ok, nmX10, (fun _ => rfl), (fun h => by cases h), by decide⟩
theorem xf_10_231 : xfP (10, 231, 10, 10, 0, 0) := ⟨(RX10, TX10, 31), rfl, by decide, rfl, by decide, fun w h => lz_tb2 (uwX10 w h) (ugX10 w h), lw_at 789 (by decide +kernel) rfl, rfl, tyX10_ok, nmX10, (fun _ => rfl), (fun h => by cases h), by decide⟩
theorem xf_10_234 : xfP (10, 234, 10, 22, 0, 0) := ⟨(RX10, TX10, 31), rfl, by decide, rfl, by decide, fun w h => lz_tb2 (uwX10 w h) (ugX10 w h), lw_at 801 (by decide +kernel) rfl, rfl, tyX10_ok, nmX10, (fun _ => rfl), (fun h => by cases h), by decide⟩
theorem xf_10_237 : xfP (10, 237, 10, 0, 0, 0) := ⟨(RX10, TX10, 31), rfl, by decide, rfl, by decide, fun w h => lz_tb2 (uwX10 w h) (ugX10 w h), lw_at 779 (by decide +kernel) rfl, rfl, tyX10_ok, nmX10, (fun _ => rfl), (fun h => by cases h), by decide⟩
theorem xf_ok : ∀ q ∈ xfL, xfP q := by
  unfold xfL
  exact List.forall_mem_cons.mpr ⟨xf_0_9, List.forall_mem_cons.mpr ⟨xf_0_15, List.forall_mem_cons.mpr ⟨xf_0_19, List.forall_mem_cons.mpr ⟨xf_0_23, List.forall_mem_cons.mpr ⟨xf_0_27, List.forall_mem_cons.mpr ⟨xf_0_30, List.forall_mem_cons.mpr ⟨xf_0_33, List.forall_mem_cons.mpr ⟨xf_0_46, List.forall_mem_cons.mpr ⟨xf_0_55, List.forall_mem_cons.mpr ⟨xf_0_58, List.forall_mem_cons.mpr ⟨xf_0_66, List.forall_mem_cons.mpr ⟨xf_0_78, List.forall_mem_cons.mpr ⟨xf_0_81, List.forall_mem_cons.mpr ⟨xf_0_84, List.forall_mem_cons.mpr ⟨xf_0_120, List.forall_mem_cons.mpr ⟨xf_0_133, List.forall_mem_cons.mpr ⟨xf_0_148, List.forall_mem_cons.mpr ⟨xf_0_154, List.forall_mem_cons.mpr ⟨xf_0_221, List.forall_mem_cons.mpr ⟨xf_0_227, List.forall_mem_cons.mpr ⟨xf_0_243, List.forall_mem_cons.mpr ⟨xf_1_9, List.forall_mem_cons.mpr ⟨xf_1_15, List.forall_mem_cons.mpr ⟨xf_1_25, List.forall_mem_cons.mpr ⟨xf_1_34, List.forall_mem_cons.mpr ⟨xf_1_43, List.forall_mem_cons.mpr ⟨xf_2_11, List.forall_mem_cons.mpr ⟨xf_2_16, List.forall_mem_cons.mpr ⟨xf_2_24, List.forall_mem_cons.mpr ⟨xf_2_34, List.forall_mem_cons.mpr ⟨xf_3_11, List.forall_mem_cons.mpr ⟨xf_3_17, List.forall_mem_cons.mpr ⟨xf_3_21, List.forall_mem_cons.mpr ⟨xf_3_25, List.forall_mem_cons.mpr ⟨xf_3_28, List.forall_mem_cons.mpr ⟨xf_3_32, List.forall_mem_cons.mpr ⟨xf_3_36, List.forall_mem_cons.mpr ⟨xf_3_64, List.forall_mem_cons.mpr ⟨xf_4_9, List.forall_mem_cons.mpr ⟨xf_4_15, List.forall_mem_cons.mpr ⟨xf_4_18, List.forall_mem_cons.mpr ⟨xf_4_26, List.forall_mem_cons.mpr ⟨xf_5_11, List.forall_mem_cons.mpr ⟨xf_5_17, List.forall_mem_cons.mpr ⟨xf_5_21, List.forall_mem_cons.mpr ⟨xf_5_25, List.forall_mem_cons.mpr ⟨xf_5_29, List.forall_mem_cons.mpr ⟨xf_5_32, List.forall_mem_cons.mpr ⟨xf_5_35, List.forall_mem_cons.mpr ⟨xf_5_38, List.forall_mem_cons.mpr ⟨xf_6_11, List.forall_mem_cons.mpr ⟨xf_6_16, List.forall_mem_cons.mpr ⟨xf_7_11, List.forall_mem_cons.mpr ⟨xf_7_17, List.forall_mem_cons.mpr ⟨xf_8_9, List.forall_mem_cons.mpr ⟨xf_8_18, List.forall_mem_cons.mpr ⟨xf_8_22, List.forall_mem_cons.mpr ⟨xf_8_26, List.forall_mem_cons.mpr ⟨xf_8_30, List.forall_mem_cons.mpr ⟨xf_8_33, List.forall_mem_cons.mpr ⟨xf_8_36, List.forall_mem_cons.mpr ⟨xf_9_12, List.forall_mem_cons.mpr ⟨xf_9_19, List.forall_mem_cons.mpr ⟨xf_9_26, List.forall_mem_cons.mpr ⟨xf_9_33, List.forall_mem_cons.mpr ⟨xf_9_42, List.forall_mem_cons.mpr ⟨xf_9_51, List.forall_mem_cons.mpr ⟨xf_9_84, List.forall_mem_cons.mpr ⟨xf_9_118, List.forall_mem_cons.mpr ⟨xf_9_153, List.forall_mem_cons.mpr ⟨xf_9_156, List.forall_mem_cons.mpr ⟨xf_9_179, List.forall_mem_cons.mpr ⟨xf_9_182, List.forall_mem_cons.mpr ⟨xf_9_185, List.forall_mem_cons.mpr ⟨xf_9_188, List.forall_mem_cons.mpr ⟨xf_9_194, List.forall_mem_cons.mpr ⟨xf_9_197, List.forall_mem_cons.mpr ⟨xf_9_201, List.forall_mem_cons.mpr ⟨xf_9_202, List.forall_mem_cons.mpr ⟨xf_9_206, List.forall_mem_cons.mpr ⟨xf_10_7, List.forall_mem_cons.mpr ⟨xf_10_13, List.forall_mem_cons.mpr ⟨xf_10_17, List.forall_mem_cons.mpr ⟨xf_10_20, List.forall_mem_cons.mpr ⟨xf_10_23, List.forall_mem_cons.mpr ⟨xf_10_26, List.forall_mem_cons.mpr ⟨xf_10_29, List.forall_mem_cons.mpr ⟨xf_10_32, List.forall_mem_cons.mpr ⟨xf_10_35, List.forall_mem_cons.mpr ⟨xf_10_38, List.forall_mem_cons.mpr ⟨xf_10_41, List.forall_mem_cons.mpr ⟨xf_10_44, List.forall_mem_cons.mpr ⟨xf_10_47, List.forall_mem_cons.mpr ⟨xf_10_50, List.forall_mem_cons.mpr ⟨xf_10_53, List.forall_mem_cons.mpr ⟨xf_10_56, List.forall_mem_cons.mpr ⟨xf_10_59, List.forall_mem_cons.mpr ⟨xf_10_62, List.forall_mem_cons.mpr ⟨xf_10_65, List.forall_mem_cons.mpr ⟨xf_10_68, List.forall_mem_cons.mpr ⟨xf_10_94, List.forall_mem_cons.mpr ⟨xf_10_97, List.forall_mem_cons.mpr ⟨xf_10_100, List.forall_mem_cons.mpr ⟨xf_10_128, List.forall_mem_cons.mpr ⟨xf_10_132, List.forall_mem_cons.mpr ⟨xf_10_210, List.forall_mem_cons.mpr ⟨xf_10_225, List.forall_mem_cons.mpr ⟨xf_10_228, List.forall_mem_cons.mpr ⟨xf_10_231, List.forall_mem_cons.mpr ⟨xf_10_234, List.forall_mem_cons.mpr ⟨xf_10_237, fun _ h => absurd h List.not_mem_nil⟩⟩⟩⟩⟩⟩⟩⟩⟩⟩⟩⟩⟩⟩⟩⟩⟩⟩⟩⟩⟩⟩⟩⟩⟩⟩⟩⟩⟩⟩⟩⟩⟩⟩⟩⟩⟩⟩⟩⟩⟩⟩⟩⟩⟩⟩⟩⟩⟩⟩⟩⟩⟩⟩⟩⟩⟩⟩⟩⟩⟩⟩⟩⟩⟩⟩⟩⟩⟩⟩⟩⟩⟩⟩⟩⟩⟩⟩⟩⟩⟩⟩⟩⟩⟩⟩⟩⟩⟩⟩⟩⟩⟩⟩⟩⟩⟩⟩⟩⟩⟩⟩⟩⟩⟩⟩⟩⟩⟩⟩⟩
def xnL : List (Nat × Nat × Nat) := [(0, 134, 4), (3, 9, 8), (8, 15, 5), (9, 9, 3), (9, 16, 6), (9, 23, 2), (9, 30, 7), (9, 37, 1), (9, 46, 0)]
def xaL : List (Nat × Nat × Nat) := [(3, 9, 5), (5, 9, 3), (7, 9, 3), (8, 15, 4)]
def xiL : List (Nat × Nat × Int) := [(0, 177, -2147483648), (0, 234, 2147483647), (10, 131, -2147483648), (11, 265, 1431655765), (11, 266, 858993459), (11, 267, 252645135)]
def xdL : List (Nat × Nat × UInt64) := [(0, 192, 4643211215818981376), (0, 225, 4620693217682128896), (9, 211, 4696837146684686336), (9, 213, 13920209183539462144), (10, 110, 4696837146684686336), (10, 112, 13920209183539462144), (10, 122, 4643211215818981376), (10, 138, 4620693217682128896)]
def xjL : List (Nat × Nat × Int) := [(10, 114, 32767), (10, 116, 2147483647)]
def xoL : List (Nat × Nat × Unit) := [(0, 3, ()), (1, 3, ()), (2, 3, ()), (3, 3, ()), (4, 3, ()), (5, 3, ()), (6, 3, ()), (7, 3, ()), (8, 3, ()), (9, 3, ()), (10, 1, ())]
def xyL : List (Nat × Nat × Unit) := [(2, 38, ())]
def xgL : List (Nat × Nat × Unit) := [(2, 9, ()), (6, 9, ())]
theorem xn_ok : ∀ q ∈ xnL, lz_N (xcls q.1) q.2.1 q.2.2 := by
  unfold xnL
  exact List.forall_mem_cons.mpr ⟨⟨by decide, (RX4, TX4, 4), rfl, rfl, fun w h => lz_tb2 (uwX4 w h) (ugX4 w h), tyX4_ok, lw_at 473 (by decide +kernel) rfl, lw_at 474 (by decide +kernel) rfl, lw_at 76 (by decide +kernel) rfl, by decide⟩, List.forall_mem_cons.mpr ⟨⟨by decide, (RX8, TX8, 7), rfl, rfl, fun w h => lz_tb2 (uwX8 w h) (ugX8 w h), tyX8_ok, lw_at 94 (by decide +kernel) rfl, lw_at 249 (by decide +kernel) rfl, lw_at 74 (by decide +kernel) rfl, by decide⟩, List.forall_mem_cons.mpr ⟨⟨by decide, (RX5, TX5, 8), rfl, rfl, fun w h => lz_tb2 (uwX5 w h) (ugX5 w h), tyX5_ok, lw_at 254 (by decide +kernel) rfl, lw_at 255 (by decide +kernel) rfl, lw_at 75 (by decide +kernel) rfl, by decide⟩, List.forall_mem_cons.mpr ⟨⟨by decide, (RX3, TX3, 5), rfl, rfl, fun w h => lz_tb2 (uwX3 w h) (ugX3 w h), tyX3_ok, lw_at 88 (by decide +kernel) rfl, lw_at 89 (by decide +kernel) rfl, lw_at 67 (by decide +kernel) rfl, by decide⟩, List.forall_mem_cons.mpr ⟨⟨by decide, (RX6, TX6, 2), rfl, rfl, fun w h => lz_tb2 (uwX6 w h) (ugX6 w h), tyX6_ok, lw_at 118 (by decide +kernel) rfl, lw_at 119 (by decide +kernel) rfl, lw_at 68 (by decide +kernel) rfl, by decide⟩, List.forall_mem_cons.mpr ⟨⟨by decide, (RX2, TX2, 2), rfl, rfl, fun w h => lz_tb2 (uwX2 w h) (ugX2 w h), tyX2_ok, lw_at 133 (by decide +kernel) rfl, lw_at 134 (by decide +kernel) rfl, lw_at 69 (by decide +kernel) rfl, by decide⟩, List.forall_mem_cons.mpr ⟨⟨by decide, (RX7, TX7, 2), rfl, rfl, fun w h => lz_tb2 (uwX7 w h) (ugX7 w h), tyX7_ok, lw_at 147 (by decide +kernel) rfl, lw_at 148 (by decide +kernel) rfl, lw_at 70 (by decide +kernel) rfl, by decide⟩, List.forall_mem_cons.mpr ⟨⟨by decide, (RX1, TX1, 4), rfl, rfl, fun w h => lz_tb2 (uwX1 w h) (ugX1 w h), tyX1_ok, lw_at 163 (by decide +kernel) rfl, lw_at 164 (by decide +kernel) rfl, lw_at 71 (by decide +kernel) rfl, by decide⟩, List.forall_mem_cons.mpr ⟨⟨by decide, (RX0, TX0, 8), rfl, rfl, fun w h => lz_tb2 (uwX0 w h) (ugX0 w h), tyX0_ok, lw_at 184 (by decide +kernel) rfl, lw_at 185 (by decide +kernel) rfl, lw_at 72 (by decide +kernel) rfl, by decide⟩, fun _ h => absurd h List.not_mem_nil⟩⟩⟩⟩⟩⟩⟩⟩⟩
def xaC (t : Nat) : String := match t with
  | 3 => "CordBay$Row"
  | 4 => "CordBay$State"
  | _ => "CordBay$Unit"
theorem xa_ok : ∀ q ∈ xaL, Cond.classLink (xcls q.1) q.2.1 (xaC q.2.2) ∈ lw_tb2 ∧ 3 ≤ q.2.2 ∧ q.2.2 < 6 := by
  unfold xaL
  exact List.forall_mem_cons.mpr ⟨⟨lw_at 94 (by decide +kernel) rfl, by decide, by decide⟩, List.forall_mem_cons.mpr ⟨⟨lw_at 260 (by decide +kernel) rfl, by decide, by decide⟩, List.forall_mem_cons.mpr ⟨⟨lw_at 153 (by decide +kernel) rfl, by decide, by decide⟩, List.forall_mem_cons.mpr ⟨⟨lw_at 254 (by decide +kernel) rfl, by decide, by decide⟩, fun _ h => absurd h List.not_mem_nil⟩⟩⟩⟩
theorem xi_ok : ∀ q ∈ xiL, Cond.constant (xcls q.1) q.2.1 (Int32.ofInt q.2.2) ∈ lw_tb2 := by
  unfold xiL
  exact List.forall_mem_cons.mpr ⟨lw_at 509 (by decide +kernel) rfl, List.forall_mem_cons.mpr ⟨lw_at 583 (by decide +kernel) rfl, List.forall_mem_cons.mpr ⟨lw_at 944 (by decide +kernel) rfl, List.forall_mem_cons.mpr ⟨lw_at 731 (by decide +kernel) rfl, List.forall_mem_cons.mpr ⟨lw_at 732 (by decide +kernel) rfl, List.forall_mem_cons.mpr ⟨lw_at 733 (by decide +kernel) rfl, fun _ h => absurd h List.not_mem_nil⟩⟩⟩⟩⟩⟩
theorem xd_ok : ∀ q ∈ xdL, Cond.constantDouble (xcls q.1) q.2.1 q.2.2 ∈ lw_tb2 := by
  unfold xdL
  exact List.forall_mem_cons.mpr ⟨lw_at 530 (by decide +kernel) rfl, List.forall_mem_cons.mpr ⟨lw_at 577 (by decide +kernel) rfl, List.forall_mem_cons.mpr ⟨lw_at 534 (by decide +kernel) rfl, List.forall_mem_cons.mpr ⟨lw_at 535 (by decide +kernel) rfl, List.forall_mem_cons.mpr ⟨lw_at 959 (by decide +kernel) rfl, List.forall_mem_cons.mpr ⟨lw_at 960 (by decide +kernel) rfl, List.forall_mem_cons.mpr ⟨lw_at 955 (by decide +kernel) rfl, List.forall_mem_cons.mpr ⟨lw_at 1013 (by decide +kernel) rfl, fun _ h => absurd h List.not_mem_nil⟩⟩⟩⟩⟩⟩⟩⟩
theorem xj_ok : ∀ q ∈ xjL, Cond.constantLong (xcls q.1) q.2.1 (Int64.ofInt q.2.2) ∈ lw_tb2 := by
  unfold xjL
  exact List.forall_mem_cons.mpr ⟨lw_at 953 (by decide +kernel) rfl, List.forall_mem_cons.mpr ⟨lw_at 954 (by decide +kernel) rfl, fun _ h => absurd h List.not_mem_nil⟩⟩
theorem xo_ok : ∀ q ∈ xoL, Cond.methodLink (xcls q.1) q.2.1 Lib.objectInit ∈ lw_tb2 := by
  unfold xoL
  exact List.forall_mem_cons.mpr ⟨lw_at 189 (by decide +kernel) rfl, List.forall_mem_cons.mpr ⟨lw_at 168 (by decide +kernel) rfl, List.forall_mem_cons.mpr ⟨lw_at 138 (by decide +kernel) rfl, List.forall_mem_cons.mpr ⟨lw_at 93 (by decide +kernel) rfl, List.forall_mem_cons.mpr ⟨lw_at 478 (by decide +kernel) rfl, List.forall_mem_cons.mpr ⟨lw_at 259 (by decide +kernel) rfl, List.forall_mem_cons.mpr ⟨lw_at 123 (by decide +kernel) rfl, List.forall_mem_cons.mpr ⟨lw_at 152 (by decide +kernel) rfl, List.forall_mem_cons.mpr ⟨lw_at 253 (by decide +kernel) rfl, List.forall_mem_cons.mpr ⟨lw_at 85 (by decide +kernel) rfl, List.forall_mem_cons.mpr ⟨lw_at 778 (by decide +kernel) rfl, fun _ h => absurd h List.not_mem_nil⟩⟩⟩⟩⟩⟩⟩⟩⟩⟩⟩
theorem xo_ok2 : Cond.instanceMethod Lib.objectInit ∈ lw_tb2 ∧ Cond.code Lib.objectInit ⟨#[0xb1]⟩ 1 none ∈ lw_tb2 := ⟨lw_at 86 (by decide +kernel) rfl, lw_at 87 (by decide +kernel) rfl⟩
theorem xy_ok : ∀ q ∈ xyL, Cond.methodLink (xcls q.1) q.2.1 arraycopyName ∈ lw_tb2 := by
  unfold xyL
  exact List.forall_mem_cons.mpr ⟨lw_at 671 (by decide +kernel) rfl, fun _ h => absurd h List.not_mem_nil⟩
theorem xy_ok2 : Cond.native arraycopyName ∈ lw_tb2 ∧ Cond.static arraycopyName ∈ lw_tb2 ∧ Cond.initialized "java/lang/System" ∈ lw_tb2 := ⟨lw_at 673 (by decide +kernel) rfl, lw_at 672 (by decide +kernel) rfl, lw_at 78 (by decide +kernel) rfl⟩
theorem xg_ok : ∀ q ∈ xgL, Cond.classLink (xcls q.1) q.2.1 ("[" ++ (FieldType.array .int).toString) ∈ lw_tb2 := by
  unfold xgL
  exact List.forall_mem_cons.mpr ⟨lw_at 139 (by decide +kernel) rfl, List.forall_mem_cons.mpr ⟨lw_at 124 (by decide +kernel) rfl, fun _ h => absurd h List.not_mem_nil⟩⟩
