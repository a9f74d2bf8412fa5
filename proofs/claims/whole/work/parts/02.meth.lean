/-! the table of methods (printed by gen02.py out of the task): name, code, locals, answer, room -/
abbrev pm_MI : Type := MethodName × ByteArray × Nat × Option FieldType × Room
def pm_Id : pm_MI := (yL_law, cL_law, 4, (some .boolean), room_1)
def pm_Il : List pm_MI := [
  (yL_law, cL_law, 4, (some .boolean), room_1),
  (yX0_init, cX0_init, 1, none, { frames := 1, cells := 2, slots := 12, locals := 20 }),
  (yX0_look, cX0_look, 4, none, { frames := 2, cells := 0, slots := 0, locals := 46 }),
  (yX0_findBegin, cX0_findBegin, 3, none, { frames := 1, cells := 0, slots := 0, locals := 24 }),
  (yX0_endOfRow, cX0_endOfRow, 4, (some .long), { frames := 2, cells := 0, slots := 0, locals := 48 }),
  (yX0_leastEndOver, cX0_leastEndOver, 6, (some .long), { frames := 1, cells := 0, slots := 0, locals := 23 }),
  (yX0_howManyHold, cX0_howManyHold, 5, (some .int), { frames := 0, cells := 0, slots := 0, locals := 0 }),
  (yX0_isGood, cX0_isGood, 1, (some .boolean), { frames := 0, cells := 0, slots := 0, locals := 0 }),
  (yX1_init, cX1_init, 1, none, { frames := 1, cells := 5, slots := 80, locals := 20 }),
  (yX1_clear, cX1_clear, 1, none, { frames := 0, cells := 0, slots := 0, locals := 0 }),
  (yX1_copyFrom, cX1_copyFrom, 2, none, { frames := 1, cells := 0, slots := 0, locals := 26 }),
  (yX1_has, cX1_has, 2, (some .boolean), { frames := 0, cells := 0, slots := 0, locals := 0 }),
  (yX1_isOpen, cX1_isOpen, 2, (some .boolean), { frames := 0, cells := 0, slots := 0, locals := 0 }),
  (yX1_howManyOpen, cX1_howManyOpen, 1, (some .int), { frames := 0, cells := 0, slots := 0, locals := 0 }),
  (yX1_make, cX1_make, 6, none, { frames := 1, cells := 0, slots := 0, locals := 23 }),
  (yX1_finishBelow, cX1_finishBelow, 4, none, { frames := 0, cells := 0, slots := 0, locals := 0 }),
  (yX1_latestStamp, cX1_latestStamp, 1, (some .long), { frames := 0, cells := 0, slots := 0, locals := 0 }),
  (yX1_leastOpenStamp, cX1_leastOpenStamp, 1, (some .long), { frames := 0, cells := 0, slots := 0, locals := 0 }),
  (yX1_valueAsOf, cX1_valueAsOf, 6, (some .int), { frames := 0, cells := 0, slots := 0, locals := 0 }),
  (yX1_howManyStamped, cX1_howManyStamped, 9, (some .int), { frames := 0, cells := 0, slots := 0, locals := 0 }),
  (yX2_init, cX2_init, 1, none, { frames := 1, cells := 1, slots := 4, locals := 20 }),
  (yX2_takeFrom, cX2_takeFrom, 6, (some .boolean), { frames := 2, cells := 0, slots := 0, locals := 49 }),
  (yX2_howManyNumbers, cX2_howManyNumbers, 1, (some .int), { frames := 0, cells := 0, slots := 0, locals := 0 }),
  (yX2_takeNumber, cX2_takeNumber, 9, (some .boolean), { frames := 1, cells := 0, slots := 0, locals := 21 }),
  (yX2_areNumbersTold, cX2_areNumbersTold, 2, (some .boolean), { frames := 1, cells := 0, slots := 0, locals := 27 }),
  (yX3_init, cX3_init, 1, none, { frames := 1, cells := 0, slots := 0, locals := 20 }),
  (yX3_clear, cX3_clear, 1, none, { frames := 1, cells := 0, slots := 0, locals := 28 }),
  (yX3_set, cX3_set, 9, none, { frames := 0, cells := 0, slots := 0, locals := 0 }),
  (yX3_smear, cX3_smear, 3, (some .long), { frames := 1, cells := 0, slots := 0, locals := 22 }),
  (yX3_shift, cX3_shift, 3, (some .long), { frames := 0, cells := 0, slots := 0, locals := 0 }),
  (yX3_leastSmearedTo, cX3_leastSmearedTo, 10, (some .long), { frames := 2, cells := 0, slots := 0, locals := 44 }),
  (yX4_init, cX4_init, 1, none, { frames := 1, cells := 3, slots := 18, locals := 20 }),
  (yX4_clear, cX4_clear, 1, none, { frames := 0, cells := 0, slots := 0, locals := 0 }),
  (yX4_copyFrom, cX4_copyFrom, 2, none, { frames := 1, cells := 0, slots := 0, locals := 26 }),
  (yX4_hear, cX4_hear, 7, none, { frames := 0, cells := 0, slots := 0, locals := 0 }),
  (yX4_hasTold, cX4_hasTold, 2, (some .boolean), { frames := 0, cells := 0, slots := 0, locals := 0 }),
  (yX4_isHeard, cX4_isHeard, 2, (some .boolean), { frames := 0, cells := 0, slots := 0, locals := 0 }),
  (yX4_howManyHeard, cX4_howManyHeard, 1, (some .int), { frames := 1, cells := 0, slots := 0, locals := 20 }),
  (yX4_beginOf, cX4_beginOf, 5, (some .long), { frames := 1, cells := 0, slots := 0, locals := 22 }),
  (yX4_endOf, cX4_endOf, 5, (some .long), { frames := 1, cells := 0, slots := 0, locals := 22 }),
  (yX4_widening, cX4_widening, 3, (some .long), { frames := 0, cells := 0, slots := 0, locals := 0 }),
  (yX4_meets, cX4_meets, 7, (some .boolean), { frames := 2, cells := 0, slots := 0, locals := 46 }),
  (yX5_init, cX5_init, 2, none, { frames := 3, cells := 67, slots := 690, locals := 60 }),
  (yX5_keep, cX5_keep, 2, none, { frames := 3, cells := 0, slots := 0, locals := 68 }),
  (yX5_giveBack, cX5_giveBack, 2, none, { frames := 3, cells := 0, slots := 0, locals := 68 }),
  (yX6_init, cX6_init, 1, none, { frames := 2, cells := 10, slots := 111, locals := 40 }),
  (yX6_clear, cX6_clear, 1, none, { frames := 1, cells := 0, slots := 0, locals := 20 }),
  (yX6_copyFrom, cX6_copyFrom, 2, none, { frames := 2, cells := 0, slots := 0, locals := 47 }),
  (yX7_init, cX7_init, 1, none, { frames := 1, cells := 1, slots := 200, locals := 20 }),
  (yX7_put, cX7_put, 2, none, { frames := 0, cells := 0, slots := 0, locals := 0 }),
  (yX7_putAll, cX7_putAll, 3, none, { frames := 4, cells := 0, slots := 0, locals := 85 }),
  (yX7_letterAt, cX7_letterAt, 2, (some .char), { frames := 0, cells := 0, slots := 0, locals := 0 }),
  (yX8_init, cX8_init, 1, none, { frames := 5, cells := 87, slots := 1037, locals := 107 }),
  (yX8_write, cX8_write, 2, (some .int), { frames := 1, cells := 0, slots := 0, locals := 21 }),
  (yX8_wipe, cX8_wipe, 2, (some .int), { frames := 0, cells := 0, slots := 0, locals := 0 }),
  (yX8_fault, cX8_fault, 3, (some .int), { frames := 3, cells := 0, slots := 0, locals := 74 }),
  (yX8_lay, cX8_lay, 1, (some .int), { frames := 4, cells := 0, slots := 0, locals := 96 }),
  (yX8_layItems, cX8_layItems, 3, none, { frames := 3, cells := 0, slots := 0, locals := 74 }),
  (yX8_layItem, cX8_layItem, 2, none, { frames := 1, cells := 0, slots := 0, locals := 28 }),
  (yX8_tell, cX8_tell, 6, (some .int), { frames := 4, cells := 0, slots := 0, locals := 89 }),
  (yX8_strike, cX8_strike, 3, (some .int), { frames := 4, cells := 0, slots := 0, locals := 89 }),
  (yX8_strikeLiars, cX8_strikeLiars, 2, (some .int), { frames := 5, cells := 0, slots := 0, locals := 115 }),
  (yX8_drift, cX8_drift, 3, (some .int), { frames := 4, cells := 0, slots := 0, locals := 89 }),
  (yX8_go, cX8_go, 4, (some .int), { frames := 5, cells := 0, slots := 0, locals := 109 }),
  (yX8_finishCommits, cX8_finishCommits, 1, none, { frames := 4, cells := 0, slots := 0, locals := 89 }),
  (yX8_undo, cX8_undo, 1, (some .int), { frames := 4, cells := 0, slots := 0, locals := 89 }),
  (yX8_span, cX8_span, 3, (some .long), { frames := 2, cells := 0, slots := 0, locals := 46 }),
  (yX8_agreed, cX8_agreed, 2, (some .long), { frames := 4, cells := 0, slots := 0, locals := 89 }),
  (yX8_good, cX8_good, 1, (some .int), { frames := 4, cells := 0, slots := 0, locals := 89 }),
  (yX8_in, cX8_in, 3, (some .int), { frames := 4, cells := 0, slots := 0, locals := 89 }),
  (yX8_liars, cX8_liars, 7, (some .int), { frames := 4, cells := 0, slots := 0, locals := 89 }),
  (yX8_lookAround, cX8_lookAround, 1, none, { frames := 3, cells := 0, slots := 0, locals := 69 }),
  (yX8_commit, cX8_commit, 3, (some .int), { frames := 4, cells := 0, slots := 0, locals := 89 }),
  (yX8_commitOf, cX8_commitOf, 3, (some .long), { frames := 1, cells := 0, slots := 0, locals := 21 }),
  (yX8_waiting, cX8_waiting, 5, (some .int), { frames := 3, cells := 0, slots := 0, locals := 69 }),
  (yX8_safe, cX8_safe, 4, (some .long), { frames := 4, cells := 0, slots := 0, locals := 89 }),
  (yX8_read, cX8_read, 4, (some .int), { frames := 5, cells := 0, slots := 0, locals := 112 }),
  (yX8_between, cX8_between, 6, (some .int), { frames := 1, cells := 0, slots := 0, locals := 28 }),
  (yX8_leap, cX8_leap, 2, (some .long), { frames := 0, cells := 0, slots := 0, locals := 0 }),
  (yX8_smeared, cX8_smeared, 3, (some .long), { frames := 2, cells := 0, slots := 0, locals := 44 }),
  (yX8_back, cX8_back, 3, (some .long), { frames := 3, cells := 0, slots := 0, locals := 73 }),
  (yX8_count, cX8_count, 2, (some .int), { frames := 2, cells := 0, slots := 0, locals := 40 }),
  (yX8_isMaster, cX8_isMaster, 2, (some .boolean), { frames := 0, cells := 0, slots := 0, locals := 0 }),
  (yX8_isKey, cX8_isKey, 1, (some .boolean), { frames := 0, cells := 0, slots := 0, locals := 0 }),
  (yX8_isDrift, cX8_isDrift, 2, (some .boolean), { frames := 0, cells := 0, slots := 0, locals := 0 }),
  (yX8_isToldSpan, cX8_isToldSpan, 4, (some .boolean), { frames := 0, cells := 0, slots := 0, locals := 0 }),
  (yX8_isAsked, cX8_isAsked, 2, (some .boolean), { frames := 0, cells := 0, slots := 0, locals := 0 }),
  (yX8_isLeap, cX8_isLeap, 8, (some .boolean), { frames := 0, cells := 0, slots := 0, locals := 0 }),
  (yX9_init, cX9_init, 1, none, { frames := 2, cells := 8, slots := 1084, locals := 49 }),
  (yX9_within, cX9_within, 6, (some .boolean), { frames := 0, cells := 0, slots := 0, locals := 0 }),
  (yX9_begin, cX9_begin, 2, none, { frames := 1, cells := 0, slots := 0, locals := 28 }),
  (yX9_putMaster, cX9_putMaster, 6, none, { frames := 0, cells := 0, slots := 0, locals := 0 }),
  (yX9_putLeap, cX9_putLeap, 9, none, { frames := 0, cells := 0, slots := 0, locals := 0 }),
  (yX9_take, cX9_take, 2, none, { frames := 0, cells := 0, slots := 0, locals := 0 }),
  (yX9_takeNumber, cX9_takeNumber, 7, (some .long), { frames := 1, cells := 0, slots := 0, locals := 25 }),
  (yX9_takeSign, cX9_takeSign, 3, (some .boolean), { frames := 0, cells := 0, slots := 0, locals := 0 }),
  (yX9_readMaster, cX9_readMaster, 9, (some .boolean), { frames := 2, cells := 0, slots := 0, locals := 51 }),
  (yX9_readLeap, cX9_readLeap, 12, (some .boolean), { frames := 2, cells := 0, slots := 0, locals := 51 }),
  (yX9_readItem, cX9_readItem, 5, (some .boolean), { frames := 3, cells := 0, slots := 0, locals := 82 }),
  (yX9_readText, cX9_readText, 2, (some .int), { frames := 4, cells := 0, slots := 0, locals := 106 }),
  (yX9_write, cX9_write, 2, (some .int), { frames := 1, cells := 0, slots := 0, locals := 25 }),
  (yX9_wipe, cX9_wipe, 2, (some .int), { frames := 0, cells := 0, slots := 0, locals := 0 }),
  (yX9_fault, cX9_fault, 1, (some .int), { frames := 5, cells := 0, slots := 0, locals := 127 }),
  (yX9_lay, cX9_lay, 1, (some .int), { frames := 5, cells := 0, slots := 0, locals := 127 }),
  (yX9_note, cX9_note, 2, none, { frames := 0, cells := 0, slots := 0, locals := 0 }),
  (yX9_undo, cX9_undo, 2, (some .int), { frames := 0, cells := 0, slots := 0, locals := 0 }),
  (yX9_isMaster, cX9_isMaster, 1, (some .boolean), { frames := 1, cells := 0, slots := 0, locals := 25 }),
  (yX9_isStruck, cX9_isStruck, 2, (some .boolean), { frames := 0, cells := 0, slots := 0, locals := 0 }),
  (yX9_isHeard, cX9_isHeard, 2, (some .boolean), { frames := 1, cells := 0, slots := 0, locals := 21 }),
  (yX9_heardMany, cX9_heardMany, 3, (some .int), { frames := 2, cells := 0, slots := 0, locals := 42 }),
  (yX9_tell, cX9_tell, 6, (some .int), { frames := 3, cells := 0, slots := 0, locals := 64 }),
  (yX9_strike, cX9_strike, 3, (some .int), { frames := 3, cells := 0, slots := 0, locals := 64 }),
  (yX9_strikeLiars, cX9_strikeLiars, 2, (some .int), { frames := 4, cells := 0, slots := 0, locals := 97 }),
  (yX9_drift, cX9_drift, 3, (some .int), { frames := 1, cells := 0, slots := 0, locals := 25 }),
  (yX9_go, cX9_go, 4, (some .int), { frames := 4, cells := 0, slots := 0, locals := 98 }),
  (yX9_closeOpen, cX9_closeOpen, 5, (some .int), { frames := 3, cells := 0, slots := 0, locals := 74 }),
  (yX9_spanOf, cX9_spanOf, 10, (some .long), { frames := 0, cells := 0, slots := 0, locals := 0 }),
  (yX9_manyAt, cX9_manyAt, 5, (some .int), { frames := 1, cells := 0, slots := 0, locals := 25 }),
  (yX9_sameTo, cX9_sameTo, 8, (some .long), { frames := 0, cells := 0, slots := 0, locals := 0 }),
  (yX9_find, cX9_find, 6, none, { frames := 2, cells := 0, slots := 0, locals := 49 }),
  (yX9_isGood, cX9_isGood, 1, (some .boolean), { frames := 0, cells := 0, slots := 0, locals := 0 }),
  (yX9_span, cX9_span, 3, (some .long), { frames := 2, cells := 0, slots := 0, locals := 45 }),
  (yX9_agreed, cX9_agreed, 2, (some .long), { frames := 3, cells := 0, slots := 0, locals := 74 }),
  (yX9_good, cX9_good, 1, (some .int), { frames := 3, cells := 0, slots := 0, locals := 74 }),
  (yX9_in, cX9_in, 3, (some .int), { frames := 3, cells := 0, slots := 0, locals := 74 }),
  (yX9_liarsNow, cX9_liarsNow, 4, (some .int), { frames := 3, cells := 0, slots := 0, locals := 74 }),
  (yX9_liars, cX9_liars, 1, (some .int), { frames := 4, cells := 0, slots := 0, locals := 97 }),
  (yX9_ones, cX9_ones, 3, (some .int), { frames := 0, cells := 0, slots := 0, locals := 0 }),
  (yX9_openMany, cX9_openMany, 3, (some .int), { frames := 0, cells := 0, slots := 0, locals := 0 }),
  (yX9_latest, cX9_latest, 1, (some .long), { frames := 0, cells := 0, slots := 0, locals := 0 }),
  (yX9_commit, cX9_commit, 7, (some .int), { frames := 3, cells := 0, slots := 0, locals := 74 }),
  (yX9_isCommit, cX9_isCommit, 2, (some .boolean), { frames := 1, cells := 0, slots := 0, locals := 25 }),
  (yX9_commitOf, cX9_commitOf, 3, (some .long), { frames := 2, cells := 0, slots := 0, locals := 46 }),
  (yX9_waiting, cX9_waiting, 3, (some .int), { frames := 3, cells := 0, slots := 0, locals := 74 }),
  (yX9_safeNow, cX9_safeNow, 5, (some .long), { frames := 3, cells := 0, slots := 0, locals := 74 }),
  (yX9_safe, cX9_safe, 1, (some .long), { frames := 4, cells := 0, slots := 0, locals := 98 }),
  (yX9_read, cX9_read, 7, (some .int), { frames := 4, cells := 0, slots := 0, locals := 98 }),
  (yX9_between, cX9_between, 9, (some .int), { frames := 1, cells := 0, slots := 0, locals := 25 }),
  (yX9_leap, cX9_leap, 2, (some .long), { frames := 1, cells := 0, slots := 0, locals := 25 }),
  (yX9_smear, cX9_smear, 7, (some .long), { frames := 0, cells := 0, slots := 0, locals := 0 }),
  (yX9_smeared, cX9_smeared, 3, (some .long), { frames := 1, cells := 0, slots := 0, locals := 26 }),
  (yX9_back, cX9_back, 9, (some .long), { frames := 1, cells := 0, slots := 0, locals := 26 }),
  (yX9_count, cX9_count, 2, (some .int), { frames := 3, cells := 0, slots := 0, locals := 64 }),
  (yJ6_bitCount_0f7a4, cJ6_bitCount_0f7a4, 1, (some .int), { frames := 0, cells := 0, slots := 0, locals := 0 }),
  (yJ0_length_8abf5, cJ0_length_8abf5, 1, (some .int), { frames := 1, cells := 0, slots := 0, locals := 20 }),
  (yJ0_charAt_5068e, cJ0_charAt_5068e, 2, (some .char), { frames := 3, cells := 0, slots := 0, locals := 64 }),
  (yJ0_coder_7d493, cJ0_coder_7d493, 1, (some .byte), { frames := 0, cells := 0, slots := 0, locals := 0 }),
  (yJ0_isLatin1_aae02, cJ0_isLatin1_aae02, 1, (some .boolean), { frames := 0, cells := 0, slots := 0, locals := 0 }),
  (yJ0_checkIndex_df160, cJ0_checkIndex_df160, 2, none, { frames := 1, cells := 0, slots := 0, locals := 22 }),
  (yJ1_charAt_3b067, cJ1_charAt_3b067, 2, (some .char), { frames := 2, cells := 0, slots := 0, locals := 43 }),
  (yJ3_checkIndex_8e157, cJ3_checkIndex_8e157, 3, (some .int), { frames := 0, cells := 0, slots := 0, locals := 0 })]
def pm_I (y : Nat) : pm_MI := pm_Il.getD y pm_Id
abbrev pm_nm (y : Nat) : MethodName := (pm_I y).1
abbrev pm_cd (y : Nat) : ByteArray := (pm_I y).2.1
abbrev pm_mL (y : Nat) : Nat := (pm_I y).2.2.1
abbrev pm_rt (y : Nat) : Option FieldType := (pm_I y).2.2.2.1
abbrev pm_rm (y : Nat) : Room := (pm_I y).2.2.2.2
abbrev n_L_law : Nat := 0
abbrev n_X0_init : Nat := 1
abbrev n_X0_look : Nat := 2
abbrev n_X0_findBegin : Nat := 3
abbrev n_X0_endOfRow : Nat := 4
abbrev n_X0_leastEndOver : Nat := 5
abbrev n_X0_howManyHold : Nat := 6
abbrev n_X0_isGood : Nat := 7
abbrev n_X1_init : Nat := 8
abbrev n_X1_clear : Nat := 9
abbrev n_X1_copyFrom : Nat := 10
abbrev n_X1_has : Nat := 11
abbrev n_X1_isOpen : Nat := 12
abbrev n_X1_howManyOpen : Nat := 13
abbrev n_X1_make : Nat := 14
abbrev n_X1_finishBelow : Nat := 15
abbrev n_X1_latestStamp : Nat := 16
abbrev n_X1_leastOpenStamp : Nat := 17
abbrev n_X1_valueAsOf : Nat := 18
abbrev n_X1_howManyStamped : Nat := 19
abbrev n_X2_init : Nat := 20
abbrev n_X2_takeFrom : Nat := 21
abbrev n_X2_howManyNumbers : Nat := 22
abbrev n_X2_takeNumber : Nat := 23
abbrev n_X2_areNumbersTold : Nat := 24
abbrev n_X3_init : Nat := 25
abbrev n_X3_clear : Nat := 26
abbrev n_X3_set : Nat := 27
abbrev n_X3_smear : Nat := 28
abbrev n_X3_shift : Nat := 29
abbrev n_X3_leastSmearedTo : Nat := 30
abbrev n_X4_init : Nat := 31
abbrev n_X4_clear : Nat := 32
abbrev n_X4_copyFrom : Nat := 33
abbrev n_X4_hear : Nat := 34
abbrev n_X4_hasTold : Nat := 35
abbrev n_X4_isHeard : Nat := 36
abbrev n_X4_howManyHeard : Nat := 37
abbrev n_X4_beginOf : Nat := 38
abbrev n_X4_endOf : Nat := 39
abbrev n_X4_widening : Nat := 40
abbrev n_X4_meets : Nat := 41
abbrev n_X5_init : Nat := 42
abbrev n_X5_keep : Nat := 43
abbrev n_X5_giveBack : Nat := 44
abbrev n_X6_init : Nat := 45
abbrev n_X6_clear : Nat := 46
abbrev n_X6_copyFrom : Nat := 47
abbrev n_X7_init : Nat := 48
abbrev n_X7_put : Nat := 49
abbrev n_X7_putAll : Nat := 50
abbrev n_X7_letterAt : Nat := 51
abbrev n_X8_init : Nat := 52
abbrev n_X8_write : Nat := 53
abbrev n_X8_wipe : Nat := 54
abbrev n_X8_fault : Nat := 55
abbrev n_X8_lay : Nat := 56
abbrev n_X8_layItems : Nat := 57
abbrev n_X8_layItem : Nat := 58
abbrev n_X8_tell : Nat := 59
abbrev n_X8_strike : Nat := 60
abbrev n_X8_strikeLiars : Nat := 61
abbrev n_X8_drift : Nat := 62
abbrev n_X8_go : Nat := 63
abbrev n_X8_finishCommits : Nat := 64
abbrev n_X8_undo : Nat := 65
abbrev n_X8_span : Nat := 66
abbrev n_X8_agreed : Nat := 67
abbrev n_X8_good : Nat := 68
abbrev n_X8_in : Nat := 69
abbrev n_X8_liars : Nat := 70
abbrev n_X8_lookAround : Nat := 71
abbrev n_X8_commit : Nat := 72
abbrev n_X8_commitOf : Nat := 73
abbrev n_X8_waiting : Nat := 74
abbrev n_X8_safe : Nat := 75
abbrev n_X8_read : Nat := 76
abbrev n_X8_between : Nat := 77
abbrev n_X8_leap : Nat := 78
abbrev n_X8_smeared : Nat := 79
abbrev n_X8_back : Nat := 80
abbrev n_X8_count : Nat := 81
abbrev n_X8_isMaster : Nat := 82
abbrev n_X8_isKey : Nat := 83
abbrev n_X8_isDrift : Nat := 84
abbrev n_X8_isToldSpan : Nat := 85
abbrev n_X8_isAsked : Nat := 86
abbrev n_X8_isLeap : Nat := 87
abbrev n_X9_init : Nat := 88
abbrev n_X9_within : Nat := 89
abbrev n_X9_begin : Nat := 90
abbrev n_X9_putMaster : Nat := 91
abbrev n_X9_putLeap : Nat := 92
abbrev n_X9_take : Nat := 93
abbrev n_X9_takeNumber : Nat := 94
abbrev n_X9_takeSign : Nat := 95
abbrev n_X9_readMaster : Nat := 96
abbrev n_X9_readLeap : Nat := 97
abbrev n_X9_readItem : Nat := 98
abbrev n_X9_readText : Nat := 99
abbrev n_X9_write : Nat := 100
abbrev n_X9_wipe : Nat := 101
abbrev n_X9_fault : Nat := 102
abbrev n_X9_lay : Nat := 103
abbrev n_X9_note : Nat := 104
abbrev n_X9_undo : Nat := 105
abbrev n_X9_isMaster : Nat := 106
abbrev n_X9_isStruck : Nat := 107
abbrev n_X9_isHeard : Nat := 108
abbrev n_X9_heardMany : Nat := 109
abbrev n_X9_tell : Nat := 110
abbrev n_X9_strike : Nat := 111
abbrev n_X9_strikeLiars : Nat := 112
abbrev n_X9_drift : Nat := 113
abbrev n_X9_go : Nat := 114
abbrev n_X9_closeOpen : Nat := 115
abbrev n_X9_spanOf : Nat := 116
abbrev n_X9_manyAt : Nat := 117
abbrev n_X9_sameTo : Nat := 118
abbrev n_X9_find : Nat := 119
abbrev n_X9_isGood : Nat := 120
abbrev n_X9_span : Nat := 121
abbrev n_X9_agreed : Nat := 122
abbrev n_X9_good : Nat := 123
abbrev n_X9_in : Nat := 124
abbrev n_X9_liarsNow : Nat := 125
abbrev n_X9_liars : Nat := 126
abbrev n_X9_ones : Nat := 127
abbrev n_X9_openMany : Nat := 128
abbrev n_X9_latest : Nat := 129
abbrev n_X9_commit : Nat := 130
abbrev n_X9_isCommit : Nat := 131
abbrev n_X9_commitOf : Nat := 132
abbrev n_X9_waiting : Nat := 133
abbrev n_X9_safeNow : Nat := 134
abbrev n_X9_safe : Nat := 135
abbrev n_X9_read : Nat := 136
abbrev n_X9_between : Nat := 137
abbrev n_X9_leap : Nat := 138
abbrev n_X9_smear : Nat := 139
abbrev n_X9_smeared : Nat := 140
abbrev n_X9_back : Nat := 141
abbrev n_X9_count : Nat := 142
abbrev n_J6_bitCount : Nat := 143
abbrev n_J0_length : Nat := 144
abbrev n_J0_charAt : Nat := 145
abbrev n_J0_coder : Nat := 146
abbrev n_J0_isLatin1 : Nat := 147
abbrev n_J0_checkIndex : Nat := 148
abbrev n_J1_charAt : Nat := 149
abbrev n_J3_checkIndex : Nat := 150
