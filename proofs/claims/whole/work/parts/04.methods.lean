def mi_X0_repaint : hr_MI := (yX0_repaint, cX0_repaint, 7, (some .int), 0, 2, 2, bk_X0_repaint)
def mi_X0_costOf : hr_MI := (yX0_costOf, cX0_costOf, 7, (some .int), 0, 1, 4, bk_X0_costOf)
def mi_X0_leastCost : hr_MI := (yX0_leastCost, cX0_leastCost, 7, (some .int), 0, 1, 3, bk_X0_leastCost)
def mi_X0_hueOfCost : hr_MI := (yX0_hueOfCost, cX0_hueOfCost, 6, (some .int), 0, 1, 4, bk_X0_hueOfCost)
def mi_X0_blend : hr_MI := (yX0_blend, cX0_blend, 6, (some .boolean), 0, 2, 3, bk_X0_blend)
def mi_X0_enqueue : hr_MI := (yX0_enqueue, cX0_enqueue, 4, none, 0, 0, 3, bk_X0_enqueue)
def mi_X0_pour : hr_MI := (yX0_pour, cX0_pour, 10, (some .boolean), 0, 1, 4, bk_X0_pour)
def mi_X1_forget : hr_MI := (yX1_forget, cX1_forget, 1, none, 1, 0, 0, bk_X1_forget)
def mi_X1_gatherHues : hr_MI := (yX1_gatherHues, cX1_gatherHues, 4, none, 1, 2, 2, bk_X1_gatherHues)
def mi_X1_gatherPictures : hr_MI := (yX1_gatherPictures, cX1_gatherPictures, 4, none, 1, 2, 2, bk_X1_gatherPictures)
def mi_X1_join : hr_MI := (yX1_join, cX1_join, 3, none, 1, 0, 2, bk_X1_join)
def mi_X1_findFoes : hr_MI := (yX1_findFoes, cX1_findFoes, 4, none, 1, 1, 1, bk_X1_findFoes)
def mi_X1_everyone : hr_MI := (yX1_everyone, cX1_everyone, 1, (some .int), 1, 0, 0, bk_X1_everyone)
def mi_X1_lineUp : hr_MI := (yX1_lineUp, cX1_lineUp, 3, none, 1, 3, 0, bk_X1_lineUp)
def mi_X1_ordersBegunBy : hr_MI := (yX1_ordersBegunBy, cX1_ordersBegunBy, 7, (some .int), 1, 1, 2, bk_X1_ordersBegunBy)
def mi_X1_findFirstOrder : hr_MI := (yX1_findFirstOrder, cX1_findFirstOrder, 5, none, 1, 2, 0, bk_X1_findFirstOrder)
def mi_X1_leastBeginner : hr_MI := (yX1_leastBeginner, cX1_leastBeginner, 4, (some .int), 1, 1, 2, bk_X1_leastBeginner)
def mi_X1_placed : hr_MI := (yX1_placed, cX1_placed, 2, (some .int), 1, 0, 1, bk_X1_placed)
def mi_X1_findQuiet : hr_MI := (yX1_findQuiet, cX1_findQuiet, 2, none, 1, 2, 0, bk_X1_findQuiet)
def mi_X1_fewestParts : hr_MI := (yX1_fewestParts, cX1_fewestParts, 2, (some .int), 1, 3, 0, bk_X1_fewestParts)
def mi_X1_fewestPartsOf : hr_MI := (yX1_fewestPartsOf, cX1_fewestPartsOf, 7, (some .int), 1, 1, 1, bk_X1_fewestPartsOf)
def mi_X1_greatestQuarrel : hr_MI := (yX1_greatestQuarrel, cX1_greatestQuarrel, 3, (some .int), 1, 2, 0, bk_X1_greatestQuarrel)
def mi_X1_isQuarrel : hr_MI := (yX1_isQuarrel, cX1_isQuarrel, 3, (some .boolean), 1, 1, 1, bk_X1_isQuarrel)
def mi_X1_fewestHidden : hr_MI := (yX1_fewestHidden, cX1_fewestHidden, 3, (some .int), 1, 3, 0, bk_X1_fewestHidden)
def mi_X1_couple : hr_MI := (yX1_couple, cX1_couple, 4, none, 1, 3, 0, bk_X1_couple)
def mi_X1_mostCouplesOf : hr_MI := (yX1_mostCouplesOf, cX1_mostCouplesOf, 6, (some .int), 1, 2, 1, bk_X1_mostCouplesOf)
def mi_X1_leastAlly : hr_MI := (yX1_leastAlly, cX1_leastAlly, 6, (some .int), 1, 1, 2, bk_X1_leastAlly)
def mi_X2_forget : hr_MI := (yX2_forget, cX2_forget, 2, none, 2, 0, 0, bk_X2_forget)
def mi_X2_look : hr_MI := (yX2_look, cX2_look, 6, none, 2, 4, 3, bk_X2_look)
def mi_X2_propose : hr_MI := (yX2_propose, cX2_propose, 9, none, 2, 3, 6, bk_X2_propose)
def mi_X2_fitting : hr_MI := (yX2_fitting, cX2_fitting, 4, (some .int), 2, 0, 3, bk_X2_fitting)
def mi_X2_mostTelling : hr_MI := (yX2_mostTelling, cX2_mostTelling, 11, (some .int), 2, 3, 2, bk_X2_mostTelling)
def mi_X2_countSums : hr_MI := (yX2_countSums, cX2_countSums, 5, (some .int), 2, 0, 1, bk_X2_countSums)
def mi_X3_sort : hr_MI := (yX3_sort, cX3_sort, 1, (some .int), 3, 0, 0, bk_X3_sort)
def mi_X3_code : hr_MI := (yX3_code, cX3_code, 1, (some .int), 3, 0, 0, bk_X3_code)
def mi_X3_firstCanBe : hr_MI := (yX3_firstCanBe, cX3_firstCanBe, 2, (some .boolean), 3, 0, 1, bk_X3_firstCanBe)
def mi_X3_secondCanBe : hr_MI := (yX3_secondCanBe, cX3_secondCanBe, 3, (some .boolean), 3, 0, 2, bk_X3_secondCanBe)
def mi_X3_thirdCanBe : hr_MI := (yX3_thirdCanBe, cX3_thirdCanBe, 2, (some .boolean), 3, 0, 1, bk_X3_thirdCanBe)
def mi_X4_clear : hr_MI := (yX4_clear, cX4_clear, 2, none, 4, 0, 0, bk_X4_clear)
def mi_X4_addHue : hr_MI := (yX4_addHue, cX4_addHue, 4, none, 4, 0, 3, bk_X4_addHue)
def mi_X4_addRule : hr_MI := (yX4_addRule, cX4_addRule, 4, none, 4, 0, 3, bk_X4_addRule)
def mi_X4_setLikes : hr_MI := (yX4_setLikes, cX4_setLikes, 4, none, 4, 0, 3, bk_X4_setLikes)
def mi_X4_copyFrom : hr_MI := (yX4_copyFrom, cX4_copyFrom, 2, none, 4, 5, 1, bk_X4_copyFrom)
def mi_X4_all : hr_MI := (yX4_all, cX4_all, 1, (some .int), 4, 0, 0, bk_X4_all)
def mi_X4_has : hr_MI := (yX4_has, cX4_has, 2, (some .boolean), 4, 0, 1, bk_X4_has)
def mi_X4_hasAll : hr_MI := (yX4_hasAll, cX4_hasAll, 2, (some .boolean), 4, 1, 1, bk_X4_hasAll)
def mi_X4_part : hr_MI := (yX4_part, cX4_part, 3, (some .int), 4, 0, 2, bk_X4_part)
def mi_X4_total : hr_MI := (yX4_total, cX4_total, 2, (some .int), 4, 1, 1, bk_X4_total)
def mi_X4_strengthOf : hr_MI := (yX4_strengthOf, cX4_strengthOf, 3, (some .int), 4, 0, 2, bk_X4_strengthOf)
def mi_X4_foesOf : hr_MI := (yX4_foesOf, cX4_foesOf, 2, (some .int), 4, 0, 1, bk_X4_foesOf)
def mi_X4_foesOfAny : hr_MI := (yX4_foesOfAny, cX4_foesOfAny, 4, (some .int), 4, 1, 1, bk_X4_foesOfAny)
def mi_X4_answer : hr_MI := (yX4_answer, cX4_answer, 2, (some .int), 4, 3, 1, bk_X4_answer)
def mi_X4_partOrLikes : hr_MI := (yX4_partOrLikes, cX4_partOrLikes, 4, (some .int), 4, 1, 1, bk_X4_partOrLikes)
def mi_X4_meek : hr_MI := (yX4_meek, cX4_meek, 3, (some .int), 4, 0, 0, bk_X4_meek)
def mi_X4_fiercest : hr_MI := (yX4_fiercest, cX4_fiercest, 4, (some .int), 4, 1, 0, bk_X4_fiercest)
def mi_X4_dotColour : hr_MI := (yX4_dotColour, cX4_dotColour, 1, (some .int), 4, 2, 0, bk_X4_dotColour)
def mi_X4_findDot : hr_MI := (yX4_findDot, cX4_findDot, 7, (some .int), 4, 1, 0, bk_X4_findDot)
def mi_X4_foesOfColour : hr_MI := (yX4_foesOfColour, cX4_foesOfColour, 6, (some .int), 4, 0, 3, bk_X4_foesOfColour)
def mi_X4_strengthWith : hr_MI := (yX4_strengthWith, cX4_strengthWith, 10, (some .int), 4, 2, 4, bk_X4_strengthWith)
def mi_X4_wouldHold : hr_MI := (yX4_wouldHold, cX4_wouldHold, 6, (some .boolean), 4, 2, 5, bk_X4_wouldHold)
def mi_X4_gainOf : hr_MI := (yX4_gainOf, cX4_gainOf, 4, (some .int), 4, 1, 3, bk_X4_gainOf)
def mi_X4_isRest : hr_MI := (yX4_isRest, cX4_isRest, 4, (some .boolean), 4, 2, 2, bk_X4_isRest)
def mi_X4_worstOf : hr_MI := (yX4_worstOf, cX4_worstOf, 7, (some .int), 4, 1, 1, bk_X4_worstOf)
def mi_X4_strengthsOf : hr_MI := (yX4_strengthsOf, cX4_strengthsOf, 5, (some .int), 4, 1, 1, bk_X4_strengthsOf)
def mi_X4_findStrengths : hr_MI := (yX4_findStrengths, cX4_findStrengths, 4, none, 4, 4, 0, bk_X4_findStrengths)
def mi_X4_strengthOfHues : hr_MI := (yX4_strengthOfHues, cX4_strengthOfHues, 8, (some .int), 4, 3, 2, bk_X4_strengthOfHues)
def mi_X4_findHolders : hr_MI := (yX4_findHolders, cX4_findHolders, 5, none, 4, 3, 0, bk_X4_findHolders)
def mi_X4_addHolders : hr_MI := (yX4_addHolders, cX4_addHolders, 10, none, 4, 2, 6, bk_X4_addHolders)
def mi_X4_measure : hr_MI := (yX4_measure, cX4_measure, 5, (some .int), 4, 0, 3, bk_X4_measure)
def mi_X4_measureOf : hr_MI := (yX4_measureOf, cX4_measureOf, 5, (some .int), 4, 0, 5, bk_X4_measureOf)
def mi_X4_touches : hr_MI := (yX4_touches, cX4_touches, 5, (some .boolean), 4, 1, 5, bk_X4_touches)
def mi_X5_read : hr_MI := (yX5_read, cX5_read, 6, none, 5, 7, 3, bk_X5_read)
def mi_X5_note : hr_MI := (yX5_note, cX5_note, 3, none, 5, 0, 2, bk_X5_note)
def mi_X5_readLine : hr_MI := (yX5_readLine, cX5_readLine, 5, (some .boolean), 5, 6, 1, bk_X5_readLine)
def mi_X5_readNumbers : hr_MI := (yX5_readNumbers, cX5_readNumbers, 3, (some .boolean), 5, 3, 1, bk_X5_readNumbers)
def mi_X5_readGuestHues : hr_MI := (yX5_readGuestHues, cX5_readGuestHues, 3, (some .boolean), 5, 3, 0, bk_X5_readGuestHues)
def mi_X5_take : hr_MI := (yX5_take, cX5_take, 4, none, 5, 2, 2, bk_X5_take)
def mi_X5_isFull : hr_MI := (yX5_isFull, cX5_isFull, 2, (some .boolean), 5, 1, 1, bk_X5_isFull)
def mi_X5_badPlace : hr_MI := (yX5_badPlace, cX5_badPlace, 2, (some .int), 5, 1, 1, bk_X5_badPlace)
def mi_X5_keepInPalette : hr_MI := (yX5_keepInPalette, cX5_keepInPalette, 2, none, 5, 1, 1, bk_X5_keepInPalette)
def mi_X5_keepInRoll : hr_MI := (yX5_keepInRoll, cX5_keepInRoll, 2, none, 5, 1, 1, bk_X5_keepInRoll)
def mi_X5_lineNamed : hr_MI := (yX5_lineNamed, cX5_lineNamed, 3, (some (.object "HueRash$Line")), 5, 5, 1, bk_X5_lineNamed)
def mi_X5_spells : hr_MI := (yX5_spells, cX5_spells, 3, (some .boolean), 5, 4, 1, bk_X5_spells)
def mi_X5_advance : hr_MI := (yX5_advance, cX5_advance, 3, none, 5, 2, 0, bk_X5_advance)
def mi_X5_readDigits : hr_MI := (yX5_readDigits, cX5_readDigits, 2, none, 5, 1, 0, bk_X5_readDigits)
def mi_X5_byteAt : hr_MI := (yX5_byteAt, cX5_byteAt, 2, (some .int), 5, 0, 1, bk_X5_byteAt)
def mi_X5_isBlank : hr_MI := (yX5_isBlank, cX5_isBlank, 1, (some .boolean), 5, 0, 1, bk_X5_isBlank)
def mi_X5_isLetter : hr_MI := (yX5_isLetter, cX5_isLetter, 1, (some .boolean), 5, 0, 1, bk_X5_isLetter)
def mi_X5_isDigit : hr_MI := (yX5_isDigit, cX5_isDigit, 1, (some .boolean), 5, 0, 1, bk_X5_isDigit)
def mi_X6_clear : hr_MI := (yX6_clear, cX6_clear, 1, none, 6, 0, 0, bk_X6_clear)
def mi_X6_has : hr_MI := (yX6_has, cX6_has, 2, (some .boolean), 6, 0, 1, bk_X6_has)
def mi_X6_name : hr_MI := (yX6_name, cX6_name, 2, none, 6, 0, 1, bk_X6_name)
def mi_X6_add : hr_MI := (yX6_add, cX6_add, 4, none, 6, 0, 3, bk_X6_add)
def mi_X6_copyFrom : hr_MI := (yX6_copyFrom, cX6_copyFrom, 2, none, 6, 1, 1, bk_X6_copyFrom)
def mi_X7_seat : hr_MI := (yX7_seat, cX7_seat, 6, none, 7, 3, 2, bk_X7_seat)
def mi_X7_waysBegunBy : hr_MI := (yX7_waysBegunBy, cX7_waysBegunBy, 7, (some .long), 7, 2, 3, bk_X7_waysBegunBy)
def mi_X7_waysBehind : hr_MI := (yX7_waysBehind, cX7_waysBehind, 9, (some .long), 7, 1, 4, bk_X7_waysBehind)
def mi_X7_dressAtFirst : hr_MI := (yX7_dressAtFirst, cX7_dressAtFirst, 7, none, 7, 1, 3, bk_X7_dressAtFirst)
def mi_X7_fewestHues : hr_MI := (yX7_fewestHues, cX7_fewestHues, 5, (some .int), 7, 3, 2, bk_X7_fewestHues)
def mi_X7_canDress : hr_MI := (yX7_canDress, cX7_canDress, 4, (some .boolean), 7, 2, 3, bk_X7_canDress)
def mi_X7_canDressFrom : hr_MI := (yX7_canDressFrom, cX7_canDressFrom, 8, (some .boolean), 7, 1, 4, bk_X7_canDressFrom)
def mi_X7_dine : hr_MI := (yX7_dine, cX7_dine, 9, none, 7, 3, 4, bk_X7_dine)
def mi_X7_hueAt : hr_MI := (yX7_hueAt, cX7_hueAt, 4, (some .int), 7, 2, 2, bk_X7_hueAt)
def mi_X7_strengthsRound : hr_MI := (yX7_strengthsRound, cX7_strengthsRound, 5, (some .int), 7, 1, 2, bk_X7_strengthsRound)
def mi_X8_put : hr_MI := (yX8_put, cX8_put, 3, none, 8, 0, 1, bk_X8_put)
def mi_X8_slotFor : hr_MI := (yX8_slotFor, cX8_slotFor, 3, (some .int), 8, 0, 2, bk_X8_slotFor)
def mi_X8_keep : hr_MI := (yX8_keep, cX8_keep, 5, none, 8, 6, 4, bk_X8_keep)
def mi_X8_paletteAt : hr_MI := (yX8_paletteAt, cX8_paletteAt, 2, (some (.object "HueRash$Palette")), 8, 0, 1, bk_X8_paletteAt)
def mi_X8_rollAt : hr_MI := (yX8_rollAt, cX8_rollAt, 3, (some (.object "HueRash$Roll")), 8, 1, 2, bk_X8_rollAt)
def mi_X8_copyFrom : hr_MI := (yX8_copyFrom, cX8_copyFrom, 3, none, 8, 6, 1, bk_X8_copyFrom)
def mi_X8_rollIndex : hr_MI := (yX8_rollIndex, cX8_rollIndex, 2, (some .int), 8, 0, 2, bk_X8_rollIndex)
def mi_X9_go : hr_MI := (yX9_go, cX9_go, 7, (some .int), 9, 5, 4, bk_X9_go)
def mi_X9_begin : hr_MI := (yX9_begin, cX9_begin, 3, none, 9, 1, 1, bk_X9_begin)
def mi_X9_act : hr_MI := (yX9_act, cX9_act, 7, (some .boolean), 9, 4, 4, bk_X9_act)
def mi_X9_move : hr_MI := (yX9_move, cX9_move, 4, (some .boolean), 9, 0, 4, bk_X9_move)
def mi_X9_passHour : hr_MI := (yX9_passHour, cX9_passHour, 6, none, 9, 3, 2, bk_X9_passHour)
def mi_X9_rashOf : hr_MI := (yX9_rashOf, cX9_rashOf, 8, (some .int), 9, 2, 3, bk_X9_rashOf)
def mi_X9_gatherThings : hr_MI := (yX9_gatherThings, cX9_gatherThings, 4, none, 9, 1, 2, bk_X9_gatherThings)
def mi_X9_addThing : hr_MI := (yX9_addThing, cX9_addThing, 3, none, 9, 0, 2, bk_X9_addThing)
def mi_X9_markFading : hr_MI := (yX9_markFading, cX9_markFading, 2, none, 9, 0, 1, bk_X9_markFading)
def mi_X9_answer : hr_MI := (yX9_answer, cX9_answer, 4, (some .int), 9, 4, 3, bk_X9_answer)
def mi_X9_answerOf : hr_MI := (yX9_answerOf, cX9_answerOf, 5, (some .int), 9, 3, 4, bk_X9_answerOf)
def mi_X10_feed : hr_MI := (yX10_feed, cX10_feed, 6, (some .int), 10, 1, 5, bk_X10_feed)
def mi_X10_end : hr_MI := (yX10_end, cX10_end, 2, (some .int), 10, 0, 1, bk_X10_end)
def mi_X10_text : hr_MI := (yX10_text, cX10_text, 5, (some .int), 10, 8, 2, bk_X10_text)
def mi_X10_fault : hr_MI := (yX10_fault, cX10_fault, 2, (some .int), 10, 0, 1, bk_X10_fault)
def mi_X10_palette : hr_MI := (yX10_palette, cX10_palette, 4, (some .int), 10, 4, 2, bk_X10_palette)
def mi_X10_rule : hr_MI := (yX10_rule, cX10_rule, 5, (some .int), 10, 1, 3, bk_X10_rule)
def mi_X10_strength : hr_MI := (yX10_strength, cX10_strength, 5, (some .int), 10, 1, 3, bk_X10_strength)
def mi_X10_minds : hr_MI := (yX10_minds, cX10_minds, 7, (some .int), 10, 3, 5, bk_X10_minds)
def mi_X10_gallery : hr_MI := (yX10_gallery, cX10_gallery, 4, (some .int), 10, 2, 2, bk_X10_gallery)
def mi_X10_deed : hr_MI := (yX10_deed, cX10_deed, 4, (some .int), 10, 2, 3, bk_X10_deed)
def mi_X10_stop : hr_MI := (yX10_stop, cX10_stop, 7, (some .int), 10, 6, 3, bk_X10_stop)
def mi_X10_state : hr_MI := (yX10_state, cX10_state, 9, (some .int), 10, 6, 5, bk_X10_state)
def mi_X10_hung : hr_MI := (yX10_hung, cX10_hung, 6, (some .int), 10, 4, 3, bk_X10_hung)
def mi_X10_rows : hr_MI := (yX10_rows, cX10_rows, 3, (some .long), 10, 5, 2, bk_X10_rows)
def mi_X10_row : hr_MI := (yX10_row, cX10_row, 4, (some .int), 10, 5, 3, bk_X10_row)
def mi_X10_repainted : hr_MI := (yX10_repainted, cX10_repainted, 7, (some .int), 10, 3, 3, bk_X10_repainted)
def mi_X10_loom : hr_MI := (yX10_loom, cX10_loom, 3, (some .long), 10, 5, 2, bk_X10_loom)
def mi_X10_thread : hr_MI := (yX10_thread, cX10_thread, 4, (some .int), 10, 5, 3, bk_X10_thread)
def mi_X10_mix : hr_MI := (yX10_mix, cX10_mix, 6, (some .int), 10, 3, 4, bk_X10_mix)
def mi_X10_flags : hr_MI := (yX10_flags, cX10_flags, 4, (some .int), 10, 4, 2, bk_X10_flags)
def mi_X10_gain : hr_MI := (yX10_gain, cX10_gain, 7, (some .int), 10, 2, 3, bk_X10_gain)
def mi_X10_rest : hr_MI := (yX10_rest, cX10_rest, 7, (some .int), 10, 3, 2, bk_X10_rest)
def mi_X10_spread : hr_MI := (yX10_spread, cX10_spread, 9, (some .int), 10, 2, 3, bk_X10_spread)
def mi_X10_sneeze : hr_MI := (yX10_sneeze, cX10_sneeze, 4, (some .int), 10, 2, 3, bk_X10_sneeze)
def mi_X10_fits : hr_MI := (yX10_fits, cX10_fits, 8, (some .int), 10, 5, 4, bk_X10_fits)
def mi_X10_guest : hr_MI := (yX10_guest, cX10_guest, 4, (some .int), 10, 2, 2, bk_X10_guest)
def mi_X10_ways : hr_MI := (yX10_ways, cX10_ways, 5, (some .long), 10, 4, 2, bk_X10_ways)
def mi_X10_dinner : hr_MI := (yX10_dinner, cX10_dinner, 6, (some .int), 10, 4, 3, bk_X10_dinner)
def mi_X10_drawn : hr_MI := (yX10_drawn, cX10_drawn, 8, (some .int), 10, 4, 5, bk_X10_drawn)
def mi_X10_count : hr_MI := (yX10_count, cX10_count, 2, (some .int), 10, 0, 1, bk_X10_count)
def mi_X10_image : hr_MI := (yX10_image, cX10_image, 2, (some .boolean), 10, 7, 1, bk_X10_image)
def mi_X10_again : hr_MI := (yX10_again, cX10_again, 2, (some .boolean), 10, 7, 1, bk_X10_again)
def mi_X10_forgetAnswers : hr_MI := (yX10_forgetAnswers, cX10_forgetAnswers, 1, none, 10, 1, 0, bk_X10_forgetAnswers)
def mi_X10_lineUpPictures : hr_MI := (yX10_lineUpPictures, cX10_lineUpPictures, 6, (some .boolean), 10, 4, 2, bk_X10_lineUpPictures)
def mi_X10_lineUpHues : hr_MI := (yX10_lineUpHues, cX10_lineUpHues, 6, (some .boolean), 10, 4, 2, bk_X10_lineUpHues)
def mi_X10_lineOf : hr_MI := (yX10_lineOf, cX10_lineOf, 3, (some .int), 10, 1, 3, bk_X10_lineOf)
def mi_X10_goTogether : hr_MI := (yX10_goTogether, cX10_goTogether, 2, (some .boolean), 10, 2, 2, bk_X10_goTogether)
def mi_X10_isTone : hr_MI := (yX10_isTone, cX10_isTone, 1, (some .boolean), 10, 0, 1, bk_X10_isTone)
def mi_X10_holdsBit : hr_MI := (yX10_holdsBit, cX10_holdsBit, 2, (some .boolean), 10, 0, 2, bk_X10_holdsBit)
def mi_X10_leastOf : hr_MI := (yX10_leastOf, cX10_leastOf, 2, (some .int), 10, 1, 1, bk_X10_leastOf)
def mi_X11_in : hr_MI := (yX11_in, cX11_in, 3, (some .boolean), 11, 0, 3, bk_X11_in)
def mi_X11_has : hr_MI := (yX11_has, cX11_has, 2, (some .boolean), 11, 0, 2, bk_X11_has)
def mi_X11_greater : hr_MI := (yX11_greater, cX11_greater, 2, (some .int), 11, 0, 2, bk_X11_greater)
def mi_X11_lesser : hr_MI := (yX11_lesser, cX11_lesser, 2, (some .int), 11, 0, 2, bk_X11_lesser)
def mi_X11_size : hr_MI := (yX11_size, cX11_size, 1, (some .int), 11, 0, 1, bk_X11_size)
def mi_X11_ones : hr_MI := (yX11_ones, cX11_ones, 3, (some .int), 11, 1, 1, bk_X11_ones)
def mi_X11_copyRow : hr_MI := (yX11_copyRow, cX11_copyRow, 5, none, 11, 0, 4, bk_X11_copyRow)
def mi_X11_copyAll : hr_MI := (yX11_copyAll, cX11_copyAll, 4, none, 11, 1, 2, bk_X11_copyAll)
def mi_X11_is : hr_MI := (yX11_is, cX11_is, 3, (some .boolean), 11, 1, 2, bk_X11_is)
def mi_X11_feed : hr_MI := (yX11_feed, cX11_feed, 6, (some .int), 11, 1, 5, bk_X11_feed)
def mi_X11_four : hr_MI := (yX11_four, cX11_four, 3, none, 11, 0, 1, bk_X11_four)
def mi_X11_end : hr_MI := (yX11_end, cX11_end, 2, (some .int), 11, 1, 1, bk_X11_end)
def mi_X11_see : hr_MI := (yX11_see, cX11_see, 1, (some .int), 11, 0, 0, bk_X11_see)
def mi_X11_token : hr_MI := (yX11_token, cX11_token, 3, none, 11, 1, 0, bk_X11_token)
def mi_X11_fails : hr_MI := (yX11_fails, cX11_fails, 1, (some .boolean), 11, 0, 0, bk_X11_fails)
def mi_X11_later : hr_MI := (yX11_later, cX11_later, 3, none, 11, 0, 2, bk_X11_later)
def mi_X11_takeBut : hr_MI := (yX11_takeBut, cX11_takeBut, 5, (some .boolean), 11, 2, 4, bk_X11_takeBut)
def mi_X11_take : hr_MI := (yX11_take, cX11_take, 4, (some .boolean), 11, 3, 3, bk_X11_take)
def mi_X11_full : hr_MI := (yX11_full, cX11_full, 4, none, 11, 1, 3, bk_X11_full)
def mi_X11_keep : hr_MI := (yX11_keep, cX11_keep, 7, none, 11, 0, 4, bk_X11_keep)
def mi_X11_hueLine : hr_MI := (yX11_hueLine, cX11_hueLine, 1, (some .boolean), 11, 4, 0, bk_X11_hueLine)
def mi_X11_likesLine : hr_MI := (yX11_likesLine, cX11_likesLine, 1, (some .boolean), 11, 4, 0, bk_X11_likesLine)
def mi_X11_ruleNumbers : hr_MI := (yX11_ruleNumbers, cX11_ruleNumbers, 2, (some .boolean), 11, 4, 1, bk_X11_ruleNumbers)
def mi_X11_paletteLine : hr_MI := (yX11_paletteLine, cX11_paletteLine, 5, (some .boolean), 11, 5, 2, bk_X11_paletteLine)
def mi_X11_galleryLine : hr_MI := (yX11_galleryLine, cX11_galleryLine, 4, (some .boolean), 11, 4, 2, bk_X11_galleryLine)
def mi_X11_deedBy : hr_MI := (yX11_deedBy, cX11_deedBy, 2, (some .int), 11, 0, 1, bk_X11_deedBy)
def mi_X11_deedNumbers : hr_MI := (yX11_deedNumbers, cX11_deedNumbers, 2, (some .boolean), 11, 4, 1, bk_X11_deedNumbers)
def mi_X11_dayLine : hr_MI := (yX11_dayLine, cX11_dayLine, 5, (some .boolean), 11, 5, 2, bk_X11_dayLine)
def mi_X11_sightLine : hr_MI := (yX11_sightLine, cX11_sightLine, 4, (some .boolean), 11, 4, 2, bk_X11_sightLine)
def mi_X11_dinnerLine : hr_MI := (yX11_dinnerLine, cX11_dinnerLine, 6, (some .boolean), 11, 4, 2, bk_X11_dinnerLine)
def mi_X11_lineOf : hr_MI := (yX11_lineOf, cX11_lineOf, 5, (some .boolean), 11, 6, 3, bk_X11_lineOf)
def mi_X11_lines : hr_MI := (yX11_lines, cX11_lines, 4, (some .boolean), 11, 7, 1, bk_X11_lines)
def mi_X11_readText : hr_MI := (yX11_readText, cX11_readText, 3, (some .boolean), 11, 8, 1, bk_X11_readText)
def mi_X11_store : hr_MI := (yX11_store, cX11_store, 5, none, 11, 0, 3, bk_X11_store)
def mi_X11_storeAll : hr_MI := (yX11_storeAll, cX11_storeAll, 3, none, 11, 1, 2, bk_X11_storeAll)
def mi_X11_text : hr_MI := (yX11_text, cX11_text, 4, (some .int), 11, 9, 2, bk_X11_text)
def mi_X11_fault : hr_MI := (yX11_fault, cX11_fault, 2, (some .int), 11, 0, 1, bk_X11_fault)
def mi_X11_of : hr_MI := (yX11_of, cX11_of, 2, (some .int), 11, 0, 1, bk_X11_of)
def mi_X11_part : hr_MI := (yX11_part, cX11_part, 3, (some .int), 11, 1, 2, bk_X11_part)
def mi_X11_ruleOf : hr_MI := (yX11_ruleOf, cX11_ruleOf, 3, (some .int), 11, 1, 2, bk_X11_ruleOf)
def mi_X11_layHue : hr_MI := (yX11_layHue, cX11_layHue, 4, none, 11, 2, 2, bk_X11_layHue)
def mi_X11_layColour : hr_MI := (yX11_layColour, cX11_layColour, 3, none, 11, 0, 2, bk_X11_layColour)
def mi_X11_allParts : hr_MI := (yX11_allParts, cX11_allParts, 3, (some .int), 11, 0, 0, bk_X11_allParts)
def mi_X11_holds : hr_MI := (yX11_holds, cX11_holds, 4, (some .boolean), 11, 1, 3, bk_X11_holds)
def mi_X11_strengthOf : hr_MI := (yX11_strengthOf, cX11_strengthOf, 10, (some .int), 11, 2, 2, bk_X11_strengthOf)
def mi_X11_hand : hr_MI := (yX11_hand, cX11_hand, 4, (some .boolean), 11, 3, 1, bk_X11_hand)
def mi_X11_isHue : hr_MI := (yX11_isHue, cX11_isHue, 2, (some .boolean), 11, 1, 1, bk_X11_isHue)
def mi_X11_clash : hr_MI := (yX11_clash, cX11_clash, 3, (some .boolean), 11, 0, 2, bk_X11_clash)
def mi_X11_mindsColour : hr_MI := (yX11_mindsColour, cX11_mindsColour, 3, (some .int), 11, 3, 2, bk_X11_mindsColour)
def mi_X11_isBorne : hr_MI := (yX11_isBorne, cX11_isBorne, 4, (some .boolean), 11, 4, 2, bk_X11_isBorne)
def mi_X11_clashes : hr_MI := (yX11_clashes, cX11_clashes, 4, (some .int), 11, 1, 1, bk_X11_clashes)
def mi_X11_meek : hr_MI := (yX11_meek, cX11_meek, 3, (some .int), 11, 2, 0, bk_X11_meek)
def mi_X11_fierce : hr_MI := (yX11_fierce, cX11_fierce, 3, (some .int), 11, 2, 0, bk_X11_fierce)
def mi_X11_partsOf : hr_MI := (yX11_partsOf, cX11_partsOf, 1, (some .int), 11, 0, 1, bk_X11_partsOf)
def mi_X11_dot : hr_MI := (yX11_dot, cX11_dot, 3, (some .int), 11, 5, 0, bk_X11_dot)
def mi_X11_palette : hr_MI := (yX11_palette, cX11_palette, 4, (some .int), 11, 6, 2, bk_X11_palette)
def mi_X11_rule : hr_MI := (yX11_rule, cX11_rule, 4, (some .int), 11, 4, 3, bk_X11_rule)
def mi_X11_strength : hr_MI := (yX11_strength, cX11_strength, 4, (some .int), 11, 4, 3, bk_X11_strength)
def mi_X11_minds : hr_MI := (yX11_minds, cX11_minds, 6, (some .int), 11, 4, 5, bk_X11_minds)
def mi_X11_pictures : hr_MI := (yX11_pictures, cX11_pictures, 1, (some .int), 11, 0, 0, bk_X11_pictures)
def mi_X11_limit : hr_MI := (yX11_limit, cX11_limit, 1, (some .int), 11, 0, 0, bk_X11_limit)
def mi_X11_hueOf : hr_MI := (yX11_hueOf, cX11_hueOf, 2, (some .int), 11, 0, 1, bk_X11_hueOf)
def mi_X11_areaOf : hr_MI := (yX11_areaOf, cX11_areaOf, 2, (some .int), 11, 0, 1, bk_X11_areaOf)
def mi_X11_hasGallery : hr_MI := (yX11_hasGallery, cX11_hasGallery, 2, (some .boolean), 11, 2, 1, bk_X11_hasGallery)
def mi_X11_gallery : hr_MI := (yX11_gallery, cX11_gallery, 4, (some .int), 11, 3, 2, bk_X11_gallery)
def mi_X11_layGallery : hr_MI := (yX11_layGallery, cX11_layGallery, 4, (some .boolean), 11, 4, 2, bk_X11_layGallery)
def mi_X11_deeds : hr_MI := (yX11_deeds, cX11_deeds, 1, (some .int), 11, 0, 0, bk_X11_deeds)
def mi_X11_deedOf : hr_MI := (yX11_deedOf, cX11_deedOf, 3, (some .int), 11, 0, 2, bk_X11_deedOf)
def mi_X11_hasDay : hr_MI := (yX11_hasDay, cX11_hasDay, 2, (some .boolean), 11, 2, 1, bk_X11_hasDay)
def mi_X11_deed : hr_MI := (yX11_deed, cX11_deed, 4, (some .int), 11, 3, 3, bk_X11_deed)
def mi_X11_begin : hr_MI := (yX11_begin, cX11_begin, 2, none, 11, 1, 0, bk_X11_begin)
def mi_X11_thing : hr_MI := (yX11_thing, cX11_thing, 3, (some .int), 11, 1, 2, bk_X11_thing)
def mi_X11_rash : hr_MI := (yX11_rash, cX11_rash, 7, (some .int), 11, 2, 1, bk_X11_rash)
def mi_X11_isClashing : hr_MI := (yX11_isClashing, cX11_isClashing, 4, (some .boolean), 11, 2, 1, bk_X11_isClashing)
def mi_X11_hour : hr_MI := (yX11_hour, cX11_hour, 5, none, 11, 3, 0, bk_X11_hour)
def mi_X11_does : hr_MI := (yX11_does, cX11_does, 4, (some .boolean), 11, 4, 1, bk_X11_does)
def mi_X11_play : hr_MI := (yX11_play, cX11_play, 3, (some .int), 11, 5, 1, bk_X11_play)
def mi_X11_stop : hr_MI := (yX11_stop, cX11_stop, 4, (some .int), 11, 6, 3, bk_X11_stop)
def mi_X11_state : hr_MI := (yX11_state, cX11_state, 6, (some .int), 11, 6, 5, bk_X11_state)
def mi_X11_mind : hr_MI := (yX11_mind, cX11_mind, 3, (some .boolean), 11, 1, 2, bk_X11_mind)
def mi_X11_strengthsOf : hr_MI := (yX11_strengthsOf, cX11_strengthsOf, 4, (some .int), 11, 1, 1, bk_X11_strengthsOf)
def mi_X11_isSet : hr_MI := (yX11_isSet, cX11_isSet, 5, (some .boolean), 11, 2, 2, bk_X11_isSet)
def mi_X11_greatestSet : hr_MI := (yX11_greatestSet, cX11_greatestSet, 3, (some .int), 11, 3, 0, bk_X11_greatestSet)
def mi_X11_curtains : hr_MI := (yX11_curtains, cX11_curtains, 4, (some .int), 11, 3, 0, bk_X11_curtains)
def mi_X11_fewestRooms : hr_MI := (yX11_fewestRooms, cX11_fewestRooms, 4, (some .int), 11, 3, 0, bk_X11_fewestRooms)
def mi_X11_worst : hr_MI := (yX11_worst, cX11_worst, 3, (some .int), 11, 2, 0, bk_X11_worst)
def mi_X11_hung : hr_MI := (yX11_hung, cX11_hung, 6, (some .int), 11, 5, 3, bk_X11_hung)
def mi_X11_follows : hr_MI := (yX11_follows, cX11_follows, 3, (some .boolean), 11, 1, 2, bk_X11_follows)
def mi_X11_findBehind : hr_MI := (yX11_findBehind, cX11_findBehind, 7, none, 11, 2, 0, bk_X11_findBehind)
def mi_X11_allRows : hr_MI := (yX11_allRows, cX11_allRows, 4, (some .long), 11, 3, 0, bk_X11_allRows)
def mi_X11_rowAt : hr_MI := (yX11_rowAt, cX11_rowAt, 6, (some .int), 11, 2, 1, bk_X11_rowAt)
def mi_X11_layPictures : hr_MI := (yX11_layPictures, cX11_layPictures, 2, none, 11, 1, 0, bk_X11_layPictures)
def mi_X11_layThreads : hr_MI := (yX11_layThreads, cX11_layThreads, 3, none, 11, 1, 1, bk_X11_layThreads)
def mi_X11_rows : hr_MI := (yX11_rows, cX11_rows, 3, (some .long), 11, 5, 2, bk_X11_rows)
def mi_X11_row : hr_MI := (yX11_row, cX11_row, 4, (some .int), 11, 5, 3, bk_X11_row)
def mi_X11_paintCost : hr_MI := (yX11_paintCost, cX11_paintCost, 5, (some .int), 11, 2, 2, bk_X11_paintCost)
def mi_X11_findPaint : hr_MI := (yX11_findPaint, cX11_findPaint, 6, none, 11, 3, 0, bk_X11_findPaint)
def mi_X11_paintedAt : hr_MI := (yX11_paintedAt, cX11_paintedAt, 7, (some .int), 11, 1, 1, bk_X11_paintedAt)
def mi_X11_repainted : hr_MI := (yX11_repainted, cX11_repainted, 6, (some .int), 11, 5, 3, bk_X11_repainted)
def mi_X11_loom : hr_MI := (yX11_loom, cX11_loom, 3, (some .long), 11, 4, 2, bk_X11_loom)
def mi_X11_thread : hr_MI := (yX11_thread, cX11_thread, 4, (some .int), 11, 4, 3, bk_X11_thread)
def mi_X11_mixed : hr_MI := (yX11_mixed, cX11_mixed, 3, (some .int), 11, 2, 2, bk_X11_mixed)
def mi_X11_findNeeds : hr_MI := (yX11_findNeeds, cX11_findNeeds, 6, none, 11, 5, 1, bk_X11_findNeeds)
def mi_X11_colourOf : hr_MI := (yX11_colourOf, cX11_colourOf, 2, (some .int), 11, 2, 1, bk_X11_colourOf)
def mi_X11_isBorneHue : hr_MI := (yX11_isBorneHue, cX11_isBorneHue, 4, (some .boolean), 11, 1, 2, bk_X11_isBorneHue)
def mi_X11_mix : hr_MI := (yX11_mix, cX11_mix, 9, (some .int), 11, 6, 4, bk_X11_mix)
def mi_X11_leastOf : hr_MI := (yX11_leastOf, cX11_leastOf, 2, (some .int), 11, 1, 1, bk_X11_leastOf)
def mi_X11_findCouples : hr_MI := (yX11_findCouples, cX11_findCouples, 5, none, 11, 2, 0, bk_X11_findCouples)
def mi_X11_allyOf : hr_MI := (yX11_allyOf, cX11_allyOf, 7, (some .int), 11, 2, 1, bk_X11_allyOf)
def mi_X11_flags : hr_MI := (yX11_flags, cX11_flags, 3, (some .int), 11, 4, 2, bk_X11_flags)
def mi_X11_gainOf : hr_MI := (yX11_gainOf, cX11_gainOf, 4, (some .int), 11, 1, 3, bk_X11_gainOf)
def mi_X11_isCouple : hr_MI := (yX11_isCouple, cX11_isCouple, 2, (some .boolean), 11, 2, 1, bk_X11_isCouple)
def mi_X11_gain : hr_MI := (yX11_gain, cX11_gain, 4, (some .int), 11, 4, 3, bk_X11_gain)
def mi_X11_isRest : hr_MI := (yX11_isRest, cX11_isRest, 4, (some .boolean), 11, 2, 2, bk_X11_isRest)
def mi_X11_rest : hr_MI := (yX11_rest, cX11_rest, 5, (some .int), 11, 4, 2, bk_X11_rest)
def mi_X11_spread : hr_MI := (yX11_spread, cX11_spread, 10, (some .int), 11, 4, 3, bk_X11_spread)
def mi_X11_sneezes : hr_MI := (yX11_sneezes, cX11_sneezes, 1, (some .int), 11, 0, 0, bk_X11_sneezes)
def mi_X11_sneezeOf : hr_MI := (yX11_sneezeOf, cX11_sneezeOf, 3, (some .int), 11, 0, 2, bk_X11_sneezeOf)
def mi_X11_hasSight : hr_MI := (yX11_hasSight, cX11_hasSight, 2, (some .boolean), 11, 2, 1, bk_X11_hasSight)
def mi_X11_sneeze : hr_MI := (yX11_sneeze, cX11_sneeze, 4, (some .int), 11, 3, 3, bk_X11_sneeze)
def mi_X11_laySingle : hr_MI := (yX11_laySingle, cX11_laySingle, 4, none, 11, 0, 1, bk_X11_laySingle)
def mi_X11_holdsOf : hr_MI := (yX11_holdsOf, cX11_holdsOf, 3, (some .boolean), 11, 3, 2, bk_X11_holdsOf)
def mi_X11_isFitting : hr_MI := (yX11_isFitting, cX11_isFitting, 3, (some .boolean), 11, 4, 1, bk_X11_isFitting)
def mi_X11_layFits : hr_MI := (yX11_layFits, cX11_layFits, 4, (some .boolean), 11, 5, 2, bk_X11_layFits)
def mi_X11_tells : hr_MI := (yX11_tells, cX11_tells, 8, (some .int), 11, 4, 0, bk_X11_tells)
def mi_X11_fits : hr_MI := (yX11_fits, cX11_fits, 8, (some .int), 11, 6, 4, bk_X11_fits)
def mi_X11_guests : hr_MI := (yX11_guests, cX11_guests, 1, (some .int), 11, 0, 0, bk_X11_guests)
def mi_X11_worn : hr_MI := (yX11_worn, cX11_worn, 2, (some .int), 11, 0, 1, bk_X11_worn)
def mi_X11_hasDinner : hr_MI := (yX11_hasDinner, cX11_hasDinner, 2, (some .boolean), 11, 2, 1, bk_X11_hasDinner)
def mi_X11_guest : hr_MI := (yX11_guest, cX11_guest, 3, (some .int), 11, 3, 2, bk_X11_guest)
def mi_X11_layDinner : hr_MI := (yX11_layDinner, cX11_layDinner, 4, (some .boolean), 11, 4, 2, bk_X11_layDinner)
def mi_X11_findRest : hr_MI := (yX11_findRest, cX11_findRest, 9, none, 11, 1, 2, bk_X11_findRest)
def mi_X11_allWays : hr_MI := (yX11_allWays, cX11_allWays, 5, (some .long), 11, 2, 1, bk_X11_allWays)
def mi_X11_ways : hr_MI := (yX11_ways, cX11_ways, 3, (some .long), 11, 5, 2, bk_X11_ways)
def mi_X11_wornAt : hr_MI := (yX11_wornAt, cX11_wornAt, 6, (some .int), 11, 2, 1, bk_X11_wornAt)
def mi_X11_few : hr_MI := (yX11_few, cX11_few, 3, (some .int), 11, 3, 0, bk_X11_few)
def mi_X11_dinner : hr_MI := (yX11_dinner, cX11_dinner, 4, (some .int), 11, 5, 3, bk_X11_dinner)
def mi_X11_draw : hr_MI := (yX11_draw, cX11_draw, 2, (some .int), 11, 0, 1, bk_X11_draw)
def mi_X11_picked : hr_MI := (yX11_picked, cX11_picked, 4, (some .int), 11, 2, 1, bk_X11_picked)
def mi_X11_evening : hr_MI := (yX11_evening, cX11_evening, 4, (some .int), 11, 3, 0, bk_X11_evening)
def mi_X11_drawn : hr_MI := (yX11_drawn, cX11_drawn, 10, (some .int), 11, 5, 5, bk_X11_drawn)
def mi_X11_count : hr_MI := (yX11_count, cX11_count, 2, (some .int), 11, 1, 1, bk_X11_count)
def mi_X11_image : hr_MI := (yX11_image, cX11_image, 2, (some .boolean), 11, 2, 1, bk_X11_image)
def mi_X11_again : hr_MI := (yX11_again, cX11_again, 2, (some .boolean), 11, 2, 1, bk_X11_again)
def mi_J6_bitCount_0f7a4 : hr_MI := (yJ6_bitCount_0f7a4, cJ6_bitCount_0f7a4, 1, (some .int), 13, 0, 1, bk_J6_bitCount_0f7a4)
def hr_mL0 : List hr_MI := [mi_X0_repaint, mi_X0_costOf, mi_X0_leastCost, mi_X0_hueOfCost, mi_X0_blend, mi_X0_enqueue, mi_X0_pour, mi_X1_forget, mi_X1_gatherHues, mi_X1_gatherPictures, mi_X1_join, mi_X1_findFoes, mi_X1_everyone, mi_X1_lineUp, mi_X1_ordersBegunBy, mi_X1_findFirstOrder, mi_X1_leastBeginner, mi_X1_placed, mi_X1_findQuiet, mi_X1_fewestParts, mi_X1_fewestPartsOf, mi_X1_greatestQuarrel, mi_X1_isQuarrel, mi_X1_fewestHidden, mi_X1_couple, mi_X1_mostCouplesOf, mi_X1_leastAlly, mi_X2_forget, mi_X2_look, mi_X2_propose]
def hr_mL1 : List hr_MI := [mi_X2_fitting, mi_X2_mostTelling, mi_X2_countSums, mi_X3_sort, mi_X3_code, mi_X3_firstCanBe, mi_X3_secondCanBe, mi_X3_thirdCanBe, mi_X4_clear, mi_X4_addHue, mi_X4_addRule, mi_X4_setLikes, mi_X4_copyFrom, mi_X4_all, mi_X4_has, mi_X4_hasAll, mi_X4_part, mi_X4_total, mi_X4_strengthOf, mi_X4_foesOf, mi_X4_foesOfAny, mi_X4_answer, mi_X4_partOrLikes, mi_X4_meek, mi_X4_fiercest, mi_X4_dotColour, mi_X4_findDot, mi_X4_foesOfColour, mi_X4_strengthWith, mi_X4_wouldHold]
def hr_mL2 : List hr_MI := [mi_X4_gainOf, mi_X4_isRest, mi_X4_worstOf, mi_X4_strengthsOf, mi_X4_findStrengths, mi_X4_strengthOfHues, mi_X4_findHolders, mi_X4_addHolders, mi_X4_measure, mi_X4_measureOf, mi_X4_touches, mi_X5_read, mi_X5_note, mi_X5_readLine, mi_X5_readNumbers, mi_X5_readGuestHues, mi_X5_take, mi_X5_isFull, mi_X5_badPlace, mi_X5_keepInPalette, mi_X5_keepInRoll, mi_X5_lineNamed, mi_X5_spells, mi_X5_advance, mi_X5_readDigits, mi_X5_byteAt, mi_X5_isBlank, mi_X5_isLetter, mi_X5_isDigit, mi_X6_clear]
def hr_mL3 : List hr_MI := [mi_X6_has, mi_X6_name, mi_X6_add, mi_X6_copyFrom, mi_X7_seat, mi_X7_waysBegunBy, mi_X7_waysBehind, mi_X7_dressAtFirst, mi_X7_fewestHues, mi_X7_canDress, mi_X7_canDressFrom, mi_X7_dine, mi_X7_hueAt, mi_X7_strengthsRound, mi_X8_put, mi_X8_slotFor, mi_X8_keep, mi_X8_paletteAt, mi_X8_rollAt, mi_X8_copyFrom, mi_X8_rollIndex, mi_X9_go, mi_X9_begin, mi_X9_act, mi_X9_move, mi_X9_passHour, mi_X9_rashOf, mi_X9_gatherThings, mi_X9_addThing, mi_X9_markFading]
def hr_mL4 : List hr_MI := [mi_X9_answer, mi_X9_answerOf, mi_X10_feed, mi_X10_end, mi_X10_text, mi_X10_fault, mi_X10_palette, mi_X10_rule, mi_X10_strength, mi_X10_minds, mi_X10_gallery, mi_X10_deed, mi_X10_stop, mi_X10_state, mi_X10_hung, mi_X10_rows, mi_X10_row, mi_X10_repainted, mi_X10_loom, mi_X10_thread, mi_X10_mix, mi_X10_flags, mi_X10_gain, mi_X10_rest, mi_X10_spread, mi_X10_sneeze, mi_X10_fits, mi_X10_guest, mi_X10_ways, mi_X10_dinner]
def hr_mL5 : List hr_MI := [mi_X10_drawn, mi_X10_count, mi_X10_image, mi_X10_again, mi_X10_forgetAnswers, mi_X10_lineUpPictures, mi_X10_lineUpHues, mi_X10_lineOf, mi_X10_goTogether, mi_X10_isTone, mi_X10_holdsBit, mi_X10_leastOf, mi_X11_in, mi_X11_has, mi_X11_greater, mi_X11_lesser, mi_X11_size, mi_X11_ones, mi_X11_copyRow, mi_X11_copyAll, mi_X11_is, mi_X11_feed, mi_X11_four, mi_X11_end, mi_X11_see, mi_X11_token, mi_X11_fails, mi_X11_later, mi_X11_takeBut, mi_X11_take]
def hr_mL6 : List hr_MI := [mi_X11_full, mi_X11_keep, mi_X11_hueLine, mi_X11_likesLine, mi_X11_ruleNumbers, mi_X11_paletteLine, mi_X11_galleryLine, mi_X11_deedBy, mi_X11_deedNumbers, mi_X11_dayLine, mi_X11_sightLine, mi_X11_dinnerLine, mi_X11_lineOf, mi_X11_lines, mi_X11_readText, mi_X11_store, mi_X11_storeAll, mi_X11_text, mi_X11_fault, mi_X11_of, mi_X11_part, mi_X11_ruleOf, mi_X11_layHue, mi_X11_layColour, mi_X11_allParts, mi_X11_holds, mi_X11_strengthOf, mi_X11_hand, mi_X11_isHue, mi_X11_clash]
def hr_mL7 : List hr_MI := [mi_X11_mindsColour, mi_X11_isBorne, mi_X11_clashes, mi_X11_meek, mi_X11_fierce, mi_X11_partsOf, mi_X11_dot, mi_X11_palette, mi_X11_rule, mi_X11_strength, mi_X11_minds, mi_X11_pictures, mi_X11_limit, mi_X11_hueOf, mi_X11_areaOf, mi_X11_hasGallery, mi_X11_gallery, mi_X11_layGallery, mi_X11_deeds, mi_X11_deedOf, mi_X11_hasDay, mi_X11_deed, mi_X11_begin, mi_X11_thing, mi_X11_rash, mi_X11_isClashing, mi_X11_hour, mi_X11_does, mi_X11_play, mi_X11_stop]
def hr_mL8 : List hr_MI := [mi_X11_state, mi_X11_mind, mi_X11_strengthsOf, mi_X11_isSet, mi_X11_greatestSet, mi_X11_curtains, mi_X11_fewestRooms, mi_X11_worst, mi_X11_hung, mi_X11_follows, mi_X11_findBehind, mi_X11_allRows, mi_X11_rowAt, mi_X11_layPictures, mi_X11_layThreads, mi_X11_rows, mi_X11_row, mi_X11_paintCost, mi_X11_findPaint, mi_X11_paintedAt, mi_X11_repainted, mi_X11_loom, mi_X11_thread, mi_X11_mixed, mi_X11_findNeeds, mi_X11_colourOf, mi_X11_isBorneHue, mi_X11_mix, mi_X11_leastOf, mi_X11_findCouples]
def hr_mL9 : List hr_MI := [mi_X11_allyOf, mi_X11_flags, mi_X11_gainOf, mi_X11_isCouple, mi_X11_gain, mi_X11_isRest, mi_X11_rest, mi_X11_spread, mi_X11_sneezes, mi_X11_sneezeOf, mi_X11_hasSight, mi_X11_sneeze, mi_X11_laySingle, mi_X11_holdsOf, mi_X11_isFitting, mi_X11_layFits, mi_X11_tells, mi_X11_fits, mi_X11_guests, mi_X11_worn, mi_X11_hasDinner, mi_X11_guest, mi_X11_layDinner, mi_X11_findRest, mi_X11_allWays, mi_X11_ways, mi_X11_wornAt, mi_X11_few, mi_X11_dinner, mi_X11_draw]
def hr_mL10 : List hr_MI := [mi_X11_picked, mi_X11_evening, mi_X11_drawn, mi_X11_count, mi_X11_image, mi_X11_again, mi_J6_bitCount_0f7a4]
def hr_mL : List hr_MI := hr_mL0 ++ (hr_mL1 ++ (hr_mL2 ++ (hr_mL3 ++ (hr_mL4 ++ (hr_mL5 ++ (hr_mL6 ++ (hr_mL7 ++ (hr_mL8 ++ (hr_mL9 ++ (hr_mL10))))))))))
def hr_m (m : Nat) : hr_MI := hr_mL.getD m mi_X0_repaint
theorem ok_X0_repaint : bk_X0_repaint.all (fun q => hr_ck cX0_repaint q.1 q.2) = true := by decide +kernel
theorem ok_X0_costOf : bk_X0_costOf.all (fun q => hr_ck cX0_costOf q.1 q.2) = true := by decide +kernel
theorem ok_X0_leastCost : bk_X0_leastCost.all (fun q => hr_ck cX0_leastCost q.1 q.2) = true := by decide +kernel
theorem ok_X0_hueOfCost : bk_X0_hueOfCost.all (fun q => hr_ck cX0_hueOfCost q.1 q.2) = true := by decide +kernel
theorem ok_X0_blend : bk_X0_blend.all (fun q => hr_ck cX0_blend q.1 q.2) = true := by decide +kernel
theorem ok_X0_enqueue : bk_X0_enqueue.all (fun q => hr_ck cX0_enqueue q.1 q.2) = true := by decide +kernel
theorem ok_X0_pour : bk_X0_pour.all (fun q => hr_ck cX0_pour q.1 q.2) = true := by decide +kernel
theorem ok_X1_forget : bk_X1_forget.all (fun q => hr_ck cX1_forget q.1 q.2) = true := by decide +kernel
theorem ok_X1_gatherHues : bk_X1_gatherHues.all (fun q => hr_ck cX1_gatherHues q.1 q.2) = true := by decide +kernel
theorem ok_X1_gatherPictures : bk_X1_gatherPictures.all (fun q => hr_ck cX1_gatherPictures q.1 q.2) = true := by decide +kernel
theorem ok_X1_join : bk_X1_join.all (fun q => hr_ck cX1_join q.1 q.2) = true := by decide +kernel
theorem ok_X1_findFoes : bk_X1_findFoes.all (fun q => hr_ck cX1_findFoes q.1 q.2) = true := by decide +kernel
theorem ok_X1_everyone : bk_X1_everyone.all (fun q => hr_ck cX1_everyone q.1 q.2) = true := by decide +kernel
theorem ok_X1_lineUp : bk_X1_lineUp.all (fun q => hr_ck cX1_lineUp q.1 q.2) = true := by decide +kernel
theorem ok_X1_ordersBegunBy : bk_X1_ordersBegunBy.all (fun q => hr_ck cX1_ordersBegunBy q.1 q.2) = true := by decide +kernel
theorem ok_X1_findFirstOrder : bk_X1_findFirstOrder.all (fun q => hr_ck cX1_findFirstOrder q.1 q.2) = true := by decide +kernel
theorem ok_X1_leastBeginner : bk_X1_leastBeginner.all (fun q => hr_ck cX1_leastBeginner q.1 q.2) = true := by decide +kernel
theorem ok_X1_placed : bk_X1_placed.all (fun q => hr_ck cX1_placed q.1 q.2) = true := by decide +kernel
theorem ok_X1_findQuiet : bk_X1_findQuiet.all (fun q => hr_ck cX1_findQuiet q.1 q.2) = true := by decide +kernel
theorem ok_X1_fewestParts : bk_X1_fewestParts.all (fun q => hr_ck cX1_fewestParts q.1 q.2) = true := by decide +kernel
theorem ok_X1_fewestPartsOf : bk_X1_fewestPartsOf.all (fun q => hr_ck cX1_fewestPartsOf q.1 q.2) = true := by decide +kernel
theorem ok_X1_greatestQuarrel : bk_X1_greatestQuarrel.all (fun q => hr_ck cX1_greatestQuarrel q.1 q.2) = true := by decide +kernel
theorem ok_X1_isQuarrel : bk_X1_isQuarrel.all (fun q => hr_ck cX1_isQuarrel q.1 q.2) = true := by decide +kernel
theorem ok_X1_fewestHidden : bk_X1_fewestHidden.all (fun q => hr_ck cX1_fewestHidden q.1 q.2) = true := by decide +kernel
theorem ok_X1_couple : bk_X1_couple.all (fun q => hr_ck cX1_couple q.1 q.2) = true := by decide +kernel
theorem ok_X1_mostCouplesOf : bk_X1_mostCouplesOf.all (fun q => hr_ck cX1_mostCouplesOf q.1 q.2) = true := by decide +kernel
theorem ok_X1_leastAlly : bk_X1_leastAlly.all (fun q => hr_ck cX1_leastAlly q.1 q.2) = true := by decide +kernel
theorem ok_X2_forget : bk_X2_forget.all (fun q => hr_ck cX2_forget q.1 q.2) = true := by decide +kernel
theorem ok_X2_look : bk_X2_look.all (fun q => hr_ck cX2_look q.1 q.2) = true := by decide +kernel
theorem ok_X2_propose : bk_X2_propose.all (fun q => hr_ck cX2_propose q.1 q.2) = true := by decide +kernel
theorem ok_X2_fitting : bk_X2_fitting.all (fun q => hr_ck cX2_fitting q.1 q.2) = true := by decide +kernel
theorem ok_X2_mostTelling : bk_X2_mostTelling.all (fun q => hr_ck cX2_mostTelling q.1 q.2) = true := by decide +kernel
theorem ok_X2_countSums : bk_X2_countSums.all (fun q => hr_ck cX2_countSums q.1 q.2) = true := by decide +kernel
theorem ok_X3_sort : bk_X3_sort.all (fun q => hr_ck cX3_sort q.1 q.2) = true := by decide +kernel
theorem ok_X3_code : bk_X3_code.all (fun q => hr_ck cX3_code q.1 q.2) = true := by decide +kernel
theorem ok_X3_firstCanBe : bk_X3_firstCanBe.all (fun q => hr_ck cX3_firstCanBe q.1 q.2) = true := by decide +kernel
theorem ok_X3_secondCanBe : bk_X3_secondCanBe.all (fun q => hr_ck cX3_secondCanBe q.1 q.2) = true := by decide +kernel
theorem ok_X3_thirdCanBe : bk_X3_thirdCanBe.all (fun q => hr_ck cX3_thirdCanBe q.1 q.2) = true := by decide +kernel
theorem ok_X4_clear : bk_X4_clear.all (fun q => hr_ck cX4_clear q.1 q.2) = true := by decide +kernel
theorem ok_X4_addHue : bk_X4_addHue.all (fun q => hr_ck cX4_addHue q.1 q.2) = true := by decide +kernel
theorem ok_X4_addRule : bk_X4_addRule.all (fun q => hr_ck cX4_addRule q.1 q.2) = true := by decide +kernel
theorem ok_X4_setLikes : bk_X4_setLikes.all (fun q => hr_ck cX4_setLikes q.1 q.2) = true := by decide +kernel
theorem ok_X4_copyFrom : bk_X4_copyFrom.all (fun q => hr_ck cX4_copyFrom q.1 q.2) = true := by decide +kernel
theorem ok_X4_all : bk_X4_all.all (fun q => hr_ck cX4_all q.1 q.2) = true := by decide +kernel
theorem ok_X4_has : bk_X4_has.all (fun q => hr_ck cX4_has q.1 q.2) = true := by decide +kernel
theorem ok_X4_hasAll : bk_X4_hasAll.all (fun q => hr_ck cX4_hasAll q.1 q.2) = true := by decide +kernel
theorem ok_X4_part : bk_X4_part.all (fun q => hr_ck cX4_part q.1 q.2) = true := by decide +kernel
theorem ok_X4_total : bk_X4_total.all (fun q => hr_ck cX4_total q.1 q.2) = true := by decide +kernel
theorem ok_X4_strengthOf : bk_X4_strengthOf.all (fun q => hr_ck cX4_strengthOf q.1 q.2) = true := by decide +kernel
theorem ok_X4_foesOf : bk_X4_foesOf.all (fun q => hr_ck cX4_foesOf q.1 q.2) = true := by decide +kernel
theorem ok_X4_foesOfAny : bk_X4_foesOfAny.all (fun q => hr_ck cX4_foesOfAny q.1 q.2) = true := by decide +kernel
theorem ok_X4_answer : bk_X4_answer.all (fun q => hr_ck cX4_answer q.1 q.2) = true := by decide +kernel
theorem ok_X4_partOrLikes : bk_X4_partOrLikes.all (fun q => hr_ck cX4_partOrLikes q.1 q.2) = true := by decide +kernel
theorem ok_X4_meek : bk_X4_meek.all (fun q => hr_ck cX4_meek q.1 q.2) = true := by decide +kernel
theorem ok_X4_fiercest : bk_X4_fiercest.all (fun q => hr_ck cX4_fiercest q.1 q.2) = true := by decide +kernel
theorem ok_X4_dotColour : bk_X4_dotColour.all (fun q => hr_ck cX4_dotColour q.1 q.2) = true := by decide +kernel
theorem ok_X4_findDot : bk_X4_findDot.all (fun q => hr_ck cX4_findDot q.1 q.2) = true := by decide +kernel
theorem ok_X4_foesOfColour : bk_X4_foesOfColour.all (fun q => hr_ck cX4_foesOfColour q.1 q.2) = true := by decide +kernel
theorem ok_X4_strengthWith : bk_X4_strengthWith.all (fun q => hr_ck cX4_strengthWith q.1 q.2) = true := by decide +kernel
theorem ok_X4_wouldHold : bk_X4_wouldHold.all (fun q => hr_ck cX4_wouldHold q.1 q.2) = true := by decide +kernel
theorem ok_X4_gainOf : bk_X4_gainOf.all (fun q => hr_ck cX4_gainOf q.1 q.2) = true := by decide +kernel
theorem ok_X4_isRest : bk_X4_isRest.all (fun q => hr_ck cX4_isRest q.1 q.2) = true := by decide +kernel
theorem ok_X4_worstOf : bk_X4_worstOf.all (fun q => hr_ck cX4_worstOf q.1 q.2) = true := by decide +kernel
theorem ok_X4_strengthsOf : bk_X4_strengthsOf.all (fun q => hr_ck cX4_strengthsOf q.1 q.2) = true := by decide +kernel
theorem ok_X4_findStrengths : bk_X4_findStrengths.all (fun q => hr_ck cX4_findStrengths q.1 q.2) = true := by decide +kernel
theorem ok_X4_strengthOfHues : bk_X4_strengthOfHues.all (fun q => hr_ck cX4_strengthOfHues q.1 q.2) = true := by decide +kernel
theorem ok_X4_findHolders : bk_X4_findHolders.all (fun q => hr_ck cX4_findHolders q.1 q.2) = true := by decide +kernel
theorem ok_X4_addHolders : bk_X4_addHolders.all (fun q => hr_ck cX4_addHolders q.1 q.2) = true := by decide +kernel
theorem ok_X4_measure : bk_X4_measure.all (fun q => hr_ck cX4_measure q.1 q.2) = true := by decide +kernel
theorem ok_X4_measureOf : bk_X4_measureOf.all (fun q => hr_ck cX4_measureOf q.1 q.2) = true := by decide +kernel
theorem ok_X4_touches : bk_X4_touches.all (fun q => hr_ck cX4_touches q.1 q.2) = true := by decide +kernel
theorem ok_X5_read : bk_X5_read.all (fun q => hr_ck cX5_read q.1 q.2) = true := by decide +kernel
theorem ok_X5_note : bk_X5_note.all (fun q => hr_ck cX5_note q.1 q.2) = true := by decide +kernel
theorem ok_X5_readLine : bk_X5_readLine.all (fun q => hr_ck cX5_readLine q.1 q.2) = true := by decide +kernel
theorem ok_X5_readNumbers : bk_X5_readNumbers.all (fun q => hr_ck cX5_readNumbers q.1 q.2) = true := by decide +kernel
theorem ok_X5_readGuestHues : bk_X5_readGuestHues.all (fun q => hr_ck cX5_readGuestHues q.1 q.2) = true := by decide +kernel
theorem ok_X5_take : bk_X5_take.all (fun q => hr_ck cX5_take q.1 q.2) = true := by decide +kernel
theorem ok_X5_isFull : bk_X5_isFull.all (fun q => hr_ck cX5_isFull q.1 q.2) = true := by decide +kernel
theorem ok_X5_badPlace : bk_X5_badPlace.all (fun q => hr_ck cX5_badPlace q.1 q.2) = true := by decide +kernel
theorem ok_X5_keepInPalette : bk_X5_keepInPalette.all (fun q => hr_ck cX5_keepInPalette q.1 q.2) = true := by decide +kernel
theorem ok_X5_keepInRoll : bk_X5_keepInRoll.all (fun q => hr_ck cX5_keepInRoll q.1 q.2) = true := by decide +kernel
theorem ok_X5_lineNamed : bk_X5_lineNamed.all (fun q => hr_ck cX5_lineNamed q.1 q.2) = true := by decide +kernel
theorem ok_X5_spells : bk_X5_spells.all (fun q => hr_ck cX5_spells q.1 q.2) = true := by decide +kernel
theorem ok_X5_advance : bk_X5_advance.all (fun q => hr_ck cX5_advance q.1 q.2) = true := by decide +kernel
theorem ok_X5_readDigits : bk_X5_readDigits.all (fun q => hr_ck cX5_readDigits q.1 q.2) = true := by decide +kernel
theorem ok_X5_byteAt : bk_X5_byteAt.all (fun q => hr_ck cX5_byteAt q.1 q.2) = true := by decide +kernel
theorem ok_X5_isBlank : bk_X5_isBlank.all (fun q => hr_ck cX5_isBlank q.1 q.2) = true := by decide +kernel
theorem ok_X5_isLetter : bk_X5_isLetter.all (fun q => hr_ck cX5_isLetter q.1 q.2) = true := by decide +kernel
theorem ok_X5_isDigit : bk_X5_isDigit.all (fun q => hr_ck cX5_isDigit q.1 q.2) = true := by decide +kernel
theorem ok_X6_clear : bk_X6_clear.all (fun q => hr_ck cX6_clear q.1 q.2) = true := by decide +kernel
theorem ok_X6_has : bk_X6_has.all (fun q => hr_ck cX6_has q.1 q.2) = true := by decide +kernel
theorem ok_X6_name : bk_X6_name.all (fun q => hr_ck cX6_name q.1 q.2) = true := by decide +kernel
theorem ok_X6_add : bk_X6_add.all (fun q => hr_ck cX6_add q.1 q.2) = true := by decide +kernel
theorem ok_X6_copyFrom : bk_X6_copyFrom.all (fun q => hr_ck cX6_copyFrom q.1 q.2) = true := by decide +kernel
theorem ok_X7_seat : bk_X7_seat.all (fun q => hr_ck cX7_seat q.1 q.2) = true := by decide +kernel
theorem ok_X7_waysBegunBy : bk_X7_waysBegunBy.all (fun q => hr_ck cX7_waysBegunBy q.1 q.2) = true := by decide +kernel
theorem ok_X7_waysBehind : bk_X7_waysBehind.all (fun q => hr_ck cX7_waysBehind q.1 q.2) = true := by decide +kernel
theorem ok_X7_dressAtFirst : bk_X7_dressAtFirst.all (fun q => hr_ck cX7_dressAtFirst q.1 q.2) = true := by decide +kernel
theorem ok_X7_fewestHues : bk_X7_fewestHues.all (fun q => hr_ck cX7_fewestHues q.1 q.2) = true := by decide +kernel
theorem ok_X7_canDress : bk_X7_canDress.all (fun q => hr_ck cX7_canDress q.1 q.2) = true := by decide +kernel
theorem ok_X7_canDressFrom : bk_X7_canDressFrom.all (fun q => hr_ck cX7_canDressFrom q.1 q.2) = true := by decide +kernel
theorem ok_X7_dine : bk_X7_dine.all (fun q => hr_ck cX7_dine q.1 q.2) = true := by decide +kernel
theorem ok_X7_hueAt : bk_X7_hueAt.all (fun q => hr_ck cX7_hueAt q.1 q.2) = true := by decide +kernel
theorem ok_X7_strengthsRound : bk_X7_strengthsRound.all (fun q => hr_ck cX7_strengthsRound q.1 q.2) = true := by decide +kernel
theorem ok_X8_put : bk_X8_put.all (fun q => hr_ck cX8_put q.1 q.2) = true := by decide +kernel
theorem ok_X8_slotFor : bk_X8_slotFor.all (fun q => hr_ck cX8_slotFor q.1 q.2) = true := by decide +kernel
theorem ok_X8_keep : bk_X8_keep.all (fun q => hr_ck cX8_keep q.1 q.2) = true := by decide +kernel
theorem ok_X8_paletteAt : bk_X8_paletteAt.all (fun q => hr_ck cX8_paletteAt q.1 q.2) = true := by decide +kernel
theorem ok_X8_rollAt : bk_X8_rollAt.all (fun q => hr_ck cX8_rollAt q.1 q.2) = true := by decide +kernel
theorem ok_X8_copyFrom : bk_X8_copyFrom.all (fun q => hr_ck cX8_copyFrom q.1 q.2) = true := by decide +kernel
theorem ok_X8_rollIndex : bk_X8_rollIndex.all (fun q => hr_ck cX8_rollIndex q.1 q.2) = true := by decide +kernel
theorem ok_X9_go : bk_X9_go.all (fun q => hr_ck cX9_go q.1 q.2) = true := by decide +kernel
theorem ok_X9_begin : bk_X9_begin.all (fun q => hr_ck cX9_begin q.1 q.2) = true := by decide +kernel
theorem ok_X9_act : bk_X9_act.all (fun q => hr_ck cX9_act q.1 q.2) = true := by decide +kernel
theorem ok_X9_move : bk_X9_move.all (fun q => hr_ck cX9_move q.1 q.2) = true := by decide +kernel
theorem ok_X9_passHour : bk_X9_passHour.all (fun q => hr_ck cX9_passHour q.1 q.2) = true := by decide +kernel
theorem ok_X9_rashOf : bk_X9_rashOf.all (fun q => hr_ck cX9_rashOf q.1 q.2) = true := by decide +kernel
theorem ok_X9_gatherThings : bk_X9_gatherThings.all (fun q => hr_ck cX9_gatherThings q.1 q.2) = true := by decide +kernel
theorem ok_X9_addThing : bk_X9_addThing.all (fun q => hr_ck cX9_addThing q.1 q.2) = true := by decide +kernel
theorem ok_X9_markFading : bk_X9_markFading.all (fun q => hr_ck cX9_markFading q.1 q.2) = true := by decide +kernel
theorem ok_X9_answer : bk_X9_answer.all (fun q => hr_ck cX9_answer q.1 q.2) = true := by decide +kernel
theorem ok_X9_answerOf : bk_X9_answerOf.all (fun q => hr_ck cX9_answerOf q.1 q.2) = true := by decide +kernel
theorem ok_X10_feed : bk_X10_feed.all (fun q => hr_ck cX10_feed q.1 q.2) = true := by decide +kernel
theorem ok_X10_end : bk_X10_end.all (fun q => hr_ck cX10_end q.1 q.2) = true := by decide +kernel
theorem ok_X10_text : bk_X10_text.all (fun q => hr_ck cX10_text q.1 q.2) = true := by decide +kernel
theorem ok_X10_fault : bk_X10_fault.all (fun q => hr_ck cX10_fault q.1 q.2) = true := by decide +kernel
theorem ok_X10_palette : bk_X10_palette.all (fun q => hr_ck cX10_palette q.1 q.2) = true := by decide +kernel
theorem ok_X10_rule : bk_X10_rule.all (fun q => hr_ck cX10_rule q.1 q.2) = true := by decide +kernel
theorem ok_X10_strength : bk_X10_strength.all (fun q => hr_ck cX10_strength q.1 q.2) = true := by decide +kernel
theorem ok_X10_minds : bk_X10_minds.all (fun q => hr_ck cX10_minds q.1 q.2) = true := by decide +kernel
theorem ok_X10_gallery : bk_X10_gallery.all (fun q => hr_ck cX10_gallery q.1 q.2) = true := by decide +kernel
theorem ok_X10_deed : bk_X10_deed.all (fun q => hr_ck cX10_deed q.1 q.2) = true := by decide +kernel
theorem ok_X10_stop : bk_X10_stop.all (fun q => hr_ck cX10_stop q.1 q.2) = true := by decide +kernel
theorem ok_X10_state : bk_X10_state.all (fun q => hr_ck cX10_state q.1 q.2) = true := by decide +kernel
theorem ok_X10_hung : bk_X10_hung.all (fun q => hr_ck cX10_hung q.1 q.2) = true := by decide +kernel
theorem ok_X10_rows : bk_X10_rows.all (fun q => hr_ck cX10_rows q.1 q.2) = true := by decide +kernel
theorem ok_X10_row : bk_X10_row.all (fun q => hr_ck cX10_row q.1 q.2) = true := by decide +kernel
theorem ok_X10_repainted : bk_X10_repainted.all (fun q => hr_ck cX10_repainted q.1 q.2) = true := by decide +kernel
theorem ok_X10_loom : bk_X10_loom.all (fun q => hr_ck cX10_loom q.1 q.2) = true := by decide +kernel
theorem ok_X10_thread : bk_X10_thread.all (fun q => hr_ck cX10_thread q.1 q.2) = true := by decide +kernel
theorem ok_X10_mix : bk_X10_mix.all (fun q => hr_ck cX10_mix q.1 q.2) = true := by decide +kernel
theorem ok_X10_flags : bk_X10_flags.all (fun q => hr_ck cX10_flags q.1 q.2) = true := by decide +kernel
theorem ok_X10_gain : bk_X10_gain.all (fun q => hr_ck cX10_gain q.1 q.2) = true := by decide +kernel
theorem ok_X10_rest : bk_X10_rest.all (fun q => hr_ck cX10_rest q.1 q.2) = true := by decide +kernel
theorem ok_X10_spread : bk_X10_spread.all (fun q => hr_ck cX10_spread q.1 q.2) = true := by decide +kernel
theorem ok_X10_sneeze : bk_X10_sneeze.all (fun q => hr_ck cX10_sneeze q.1 q.2) = true := by decide +kernel
theorem ok_X10_fits : bk_X10_fits.all (fun q => hr_ck cX10_fits q.1 q.2) = true := by decide +kernel
theorem ok_X10_guest : bk_X10_guest.all (fun q => hr_ck cX10_guest q.1 q.2) = true := by decide +kernel
theorem ok_X10_ways : bk_X10_ways.all (fun q => hr_ck cX10_ways q.1 q.2) = true := by decide +kernel
theorem ok_X10_dinner : bk_X10_dinner.all (fun q => hr_ck cX10_dinner q.1 q.2) = true := by decide +kernel
theorem ok_X10_drawn : bk_X10_drawn.all (fun q => hr_ck cX10_drawn q.1 q.2) = true := by decide +kernel
theorem ok_X10_count : bk_X10_count.all (fun q => hr_ck cX10_count q.1 q.2) = true := by decide +kernel
theorem ok_X10_image : bk_X10_image.all (fun q => hr_ck cX10_image q.1 q.2) = true := by decide +kernel
theorem ok_X10_again : bk_X10_again.all (fun q => hr_ck cX10_again q.1 q.2) = true := by decide +kernel
theorem ok_X10_forgetAnswers : bk_X10_forgetAnswers.all (fun q => hr_ck cX10_forgetAnswers q.1 q.2) = true := by decide +kernel
theorem ok_X10_lineUpPictures : bk_X10_lineUpPictures.all (fun q => hr_ck cX10_lineUpPictures q.1 q.2) = true := by decide +kernel
theorem ok_X10_lineUpHues : bk_X10_lineUpHues.all (fun q => hr_ck cX10_lineUpHues q.1 q.2) = true := by decide +kernel
theorem ok_X10_lineOf : bk_X10_lineOf.all (fun q => hr_ck cX10_lineOf q.1 q.2) = true := by decide +kernel
theorem ok_X10_goTogether : bk_X10_goTogether.all (fun q => hr_ck cX10_goTogether q.1 q.2) = true := by decide +kernel
theorem ok_X10_isTone : bk_X10_isTone.all (fun q => hr_ck cX10_isTone q.1 q.2) = true := by decide +kernel
theorem ok_X10_holdsBit : bk_X10_holdsBit.all (fun q => hr_ck cX10_holdsBit q.1 q.2) = true := by decide +kernel
theorem ok_X10_leastOf : bk_X10_leastOf.all (fun q => hr_ck cX10_leastOf q.1 q.2) = true := by decide +kernel
theorem ok_X11_in : bk_X11_in.all (fun q => hr_ck cX11_in q.1 q.2) = true := by decide +kernel
theorem ok_X11_has : bk_X11_has.all (fun q => hr_ck cX11_has q.1 q.2) = true := by decide +kernel
theorem ok_X11_greater : bk_X11_greater.all (fun q => hr_ck cX11_greater q.1 q.2) = true := by decide +kernel
theorem ok_X11_lesser : bk_X11_lesser.all (fun q => hr_ck cX11_lesser q.1 q.2) = true := by decide +kernel
theorem ok_X11_size : bk_X11_size.all (fun q => hr_ck cX11_size q.1 q.2) = true := by decide +kernel
theorem ok_X11_ones : bk_X11_ones.all (fun q => hr_ck cX11_ones q.1 q.2) = true := by decide +kernel
theorem ok_X11_copyRow : bk_X11_copyRow.all (fun q => hr_ck cX11_copyRow q.1 q.2) = true := by decide +kernel
theorem ok_X11_copyAll : bk_X11_copyAll.all (fun q => hr_ck cX11_copyAll q.1 q.2) = true := by decide +kernel
theorem ok_X11_is : bk_X11_is.all (fun q => hr_ck cX11_is q.1 q.2) = true := by decide +kernel
theorem ok_X11_feed : bk_X11_feed.all (fun q => hr_ck cX11_feed q.1 q.2) = true := by decide +kernel
theorem ok_X11_four : bk_X11_four.all (fun q => hr_ck cX11_four q.1 q.2) = true := by decide +kernel
theorem ok_X11_end : bk_X11_end.all (fun q => hr_ck cX11_end q.1 q.2) = true := by decide +kernel
theorem ok_X11_see : bk_X11_see.all (fun q => hr_ck cX11_see q.1 q.2) = true := by decide +kernel
theorem ok_X11_token : bk_X11_token.all (fun q => hr_ck cX11_token q.1 q.2) = true := by decide +kernel
theorem ok_X11_fails : bk_X11_fails.all (fun q => hr_ck cX11_fails q.1 q.2) = true := by decide +kernel
theorem ok_X11_later : bk_X11_later.all (fun q => hr_ck cX11_later q.1 q.2) = true := by decide +kernel
theorem ok_X11_takeBut : bk_X11_takeBut.all (fun q => hr_ck cX11_takeBut q.1 q.2) = true := by decide +kernel
theorem ok_X11_take : bk_X11_take.all (fun q => hr_ck cX11_take q.1 q.2) = true := by decide +kernel
theorem ok_X11_full : bk_X11_full.all (fun q => hr_ck cX11_full q.1 q.2) = true := by decide +kernel
theorem ok_X11_keep : bk_X11_keep.all (fun q => hr_ck cX11_keep q.1 q.2) = true := by decide +kernel
theorem ok_X11_hueLine : bk_X11_hueLine.all (fun q => hr_ck cX11_hueLine q.1 q.2) = true := by decide +kernel
theorem ok_X11_likesLine : bk_X11_likesLine.all (fun q => hr_ck cX11_likesLine q.1 q.2) = true := by decide +kernel
theorem ok_X11_ruleNumbers : bk_X11_ruleNumbers.all (fun q => hr_ck cX11_ruleNumbers q.1 q.2) = true := by decide +kernel
theorem ok_X11_paletteLine : bk_X11_paletteLine.all (fun q => hr_ck cX11_paletteLine q.1 q.2) = true := by decide +kernel
theorem ok_X11_galleryLine : bk_X11_galleryLine.all (fun q => hr_ck cX11_galleryLine q.1 q.2) = true := by decide +kernel
theorem ok_X11_deedBy : bk_X11_deedBy.all (fun q => hr_ck cX11_deedBy q.1 q.2) = true := by decide +kernel
theorem ok_X11_deedNumbers : bk_X11_deedNumbers.all (fun q => hr_ck cX11_deedNumbers q.1 q.2) = true := by decide +kernel
theorem ok_X11_dayLine : bk_X11_dayLine.all (fun q => hr_ck cX11_dayLine q.1 q.2) = true := by decide +kernel
theorem ok_X11_sightLine : bk_X11_sightLine.all (fun q => hr_ck cX11_sightLine q.1 q.2) = true := by decide +kernel
theorem ok_X11_dinnerLine : bk_X11_dinnerLine.all (fun q => hr_ck cX11_dinnerLine q.1 q.2) = true := by decide +kernel
theorem ok_X11_lineOf : bk_X11_lineOf.all (fun q => hr_ck cX11_lineOf q.1 q.2) = true := by decide +kernel
theorem ok_X11_lines : bk_X11_lines.all (fun q => hr_ck cX11_lines q.1 q.2) = true := by decide +kernel
theorem ok_X11_readText : bk_X11_readText.all (fun q => hr_ck cX11_readText q.1 q.2) = true := by decide +kernel
theorem ok_X11_store : bk_X11_store.all (fun q => hr_ck cX11_store q.1 q.2) = true := by decide +kernel
theorem ok_X11_storeAll : bk_X11_storeAll.all (fun q => hr_ck cX11_storeAll q.1 q.2) = true := by decide +kernel
theorem ok_X11_text : bk_X11_text.all (fun q => hr_ck cX11_text q.1 q.2) = true := by decide +kernel
theorem ok_X11_fault : bk_X11_fault.all (fun q => hr_ck cX11_fault q.1 q.2) = true := by decide +kernel
theorem ok_X11_of : bk_X11_of.all (fun q => hr_ck cX11_of q.1 q.2) = true := by decide +kernel
theorem ok_X11_part : bk_X11_part.all (fun q => hr_ck cX11_part q.1 q.2) = true := by decide +kernel
theorem ok_X11_ruleOf : bk_X11_ruleOf.all (fun q => hr_ck cX11_ruleOf q.1 q.2) = true := by decide +kernel
theorem ok_X11_layHue : bk_X11_layHue.all (fun q => hr_ck cX11_layHue q.1 q.2) = true := by decide +kernel
theorem ok_X11_layColour : bk_X11_layColour.all (fun q => hr_ck cX11_layColour q.1 q.2) = true := by decide +kernel
theorem ok_X11_allParts : bk_X11_allParts.all (fun q => hr_ck cX11_allParts q.1 q.2) = true := by decide +kernel
theorem ok_X11_holds : bk_X11_holds.all (fun q => hr_ck cX11_holds q.1 q.2) = true := by decide +kernel
theorem ok_X11_strengthOf : bk_X11_strengthOf.all (fun q => hr_ck cX11_strengthOf q.1 q.2) = true := by decide +kernel
theorem ok_X11_hand : bk_X11_hand.all (fun q => hr_ck cX11_hand q.1 q.2) = true := by decide +kernel
theorem ok_X11_isHue : bk_X11_isHue.all (fun q => hr_ck cX11_isHue q.1 q.2) = true := by decide +kernel
theorem ok_X11_clash : bk_X11_clash.all (fun q => hr_ck cX11_clash q.1 q.2) = true := by decide +kernel
theorem ok_X11_mindsColour : bk_X11_mindsColour.all (fun q => hr_ck cX11_mindsColour q.1 q.2) = true := by decide +kernel
theorem ok_X11_isBorne : bk_X11_isBorne.all (fun q => hr_ck cX11_isBorne q.1 q.2) = true := by decide +kernel
theorem ok_X11_clashes : bk_X11_clashes.all (fun q => hr_ck cX11_clashes q.1 q.2) = true := by decide +kernel
theorem ok_X11_meek : bk_X11_meek.all (fun q => hr_ck cX11_meek q.1 q.2) = true := by decide +kernel
theorem ok_X11_fierce : bk_X11_fierce.all (fun q => hr_ck cX11_fierce q.1 q.2) = true := by decide +kernel
theorem ok_X11_partsOf : bk_X11_partsOf.all (fun q => hr_ck cX11_partsOf q.1 q.2) = true := by decide +kernel
theorem ok_X11_dot : bk_X11_dot.all (fun q => hr_ck cX11_dot q.1 q.2) = true := by decide +kernel
theorem ok_X11_palette : bk_X11_palette.all (fun q => hr_ck cX11_palette q.1 q.2) = true := by decide +kernel
theorem ok_X11_rule : bk_X11_rule.all (fun q => hr_ck cX11_rule q.1 q.2) = true := by decide +kernel
theorem ok_X11_strength : bk_X11_strength.all (fun q => hr_ck cX11_strength q.1 q.2) = true := by decide +kernel
theorem ok_X11_minds : bk_X11_minds.all (fun q => hr_ck cX11_minds q.1 q.2) = true := by decide +kernel
theorem ok_X11_pictures : bk_X11_pictures.all (fun q => hr_ck cX11_pictures q.1 q.2) = true := by decide +kernel
theorem ok_X11_limit : bk_X11_limit.all (fun q => hr_ck cX11_limit q.1 q.2) = true := by decide +kernel
theorem ok_X11_hueOf : bk_X11_hueOf.all (fun q => hr_ck cX11_hueOf q.1 q.2) = true := by decide +kernel
theorem ok_X11_areaOf : bk_X11_areaOf.all (fun q => hr_ck cX11_areaOf q.1 q.2) = true := by decide +kernel
theorem ok_X11_hasGallery : bk_X11_hasGallery.all (fun q => hr_ck cX11_hasGallery q.1 q.2) = true := by decide +kernel
theorem ok_X11_gallery : bk_X11_gallery.all (fun q => hr_ck cX11_gallery q.1 q.2) = true := by decide +kernel
theorem ok_X11_layGallery : bk_X11_layGallery.all (fun q => hr_ck cX11_layGallery q.1 q.2) = true := by decide +kernel
theorem ok_X11_deeds : bk_X11_deeds.all (fun q => hr_ck cX11_deeds q.1 q.2) = true := by decide +kernel
theorem ok_X11_deedOf : bk_X11_deedOf.all (fun q => hr_ck cX11_deedOf q.1 q.2) = true := by decide +kernel
theorem ok_X11_hasDay : bk_X11_hasDay.all (fun q => hr_ck cX11_hasDay q.1 q.2) = true := by decide +kernel
theorem ok_X11_deed : bk_X11_deed.all (fun q => hr_ck cX11_deed q.1 q.2) = true := by decide +kernel
theorem ok_X11_begin : bk_X11_begin.all (fun q => hr_ck cX11_begin q.1 q.2) = true := by decide +kernel
theorem ok_X11_thing : bk_X11_thing.all (fun q => hr_ck cX11_thing q.1 q.2) = true := by decide +kernel
theorem ok_X11_rash : bk_X11_rash.all (fun q => hr_ck cX11_rash q.1 q.2) = true := by decide +kernel
theorem ok_X11_isClashing : bk_X11_isClashing.all (fun q => hr_ck cX11_isClashing q.1 q.2) = true := by decide +kernel
theorem ok_X11_hour : bk_X11_hour.all (fun q => hr_ck cX11_hour q.1 q.2) = true := by decide +kernel
theorem ok_X11_does : bk_X11_does.all (fun q => hr_ck cX11_does q.1 q.2) = true := by decide +kernel
theorem ok_X11_play : bk_X11_play.all (fun q => hr_ck cX11_play q.1 q.2) = true := by decide +kernel
theorem ok_X11_stop : bk_X11_stop.all (fun q => hr_ck cX11_stop q.1 q.2) = true := by decide +kernel
theorem ok_X11_state : bk_X11_state.all (fun q => hr_ck cX11_state q.1 q.2) = true := by decide +kernel
theorem ok_X11_mind : bk_X11_mind.all (fun q => hr_ck cX11_mind q.1 q.2) = true := by decide +kernel
theorem ok_X11_strengthsOf : bk_X11_strengthsOf.all (fun q => hr_ck cX11_strengthsOf q.1 q.2) = true := by decide +kernel
theorem ok_X11_isSet : bk_X11_isSet.all (fun q => hr_ck cX11_isSet q.1 q.2) = true := by decide +kernel
theorem ok_X11_greatestSet : bk_X11_greatestSet.all (fun q => hr_ck cX11_greatestSet q.1 q.2) = true := by decide +kernel
theorem ok_X11_curtains : bk_X11_curtains.all (fun q => hr_ck cX11_curtains q.1 q.2) = true := by decide +kernel
theorem ok_X11_fewestRooms : bk_X11_fewestRooms.all (fun q => hr_ck cX11_fewestRooms q.1 q.2) = true := by decide +kernel
theorem ok_X11_worst : bk_X11_worst.all (fun q => hr_ck cX11_worst q.1 q.2) = true := by decide +kernel
theorem ok_X11_hung : bk_X11_hung.all (fun q => hr_ck cX11_hung q.1 q.2) = true := by decide +kernel
theorem ok_X11_follows : bk_X11_follows.all (fun q => hr_ck cX11_follows q.1 q.2) = true := by decide +kernel
theorem ok_X11_findBehind : bk_X11_findBehind.all (fun q => hr_ck cX11_findBehind q.1 q.2) = true := by decide +kernel
theorem ok_X11_allRows : bk_X11_allRows.all (fun q => hr_ck cX11_allRows q.1 q.2) = true := by decide +kernel
theorem ok_X11_rowAt : bk_X11_rowAt.all (fun q => hr_ck cX11_rowAt q.1 q.2) = true := by decide +kernel
theorem ok_X11_layPictures : bk_X11_layPictures.all (fun q => hr_ck cX11_layPictures q.1 q.2) = true := by decide +kernel
theorem ok_X11_layThreads : bk_X11_layThreads.all (fun q => hr_ck cX11_layThreads q.1 q.2) = true := by decide +kernel
theorem ok_X11_rows : bk_X11_rows.all (fun q => hr_ck cX11_rows q.1 q.2) = true := by decide +kernel
theorem ok_X11_row : bk_X11_row.all (fun q => hr_ck cX11_row q.1 q.2) = true := by decide +kernel
theorem ok_X11_paintCost : bk_X11_paintCost.all (fun q => hr_ck cX11_paintCost q.1 q.2) = true := by decide +kernel
theorem ok_X11_findPaint : bk_X11_findPaint.all (fun q => hr_ck cX11_findPaint q.1 q.2) = true := by decide +kernel
theorem ok_X11_paintedAt : bk_X11_paintedAt.all (fun q => hr_ck cX11_paintedAt q.1 q.2) = true := by decide +kernel
theorem ok_X11_repainted : bk_X11_repainted.all (fun q => hr_ck cX11_repainted q.1 q.2) = true := by decide +kernel
theorem ok_X11_loom : bk_X11_loom.all (fun q => hr_ck cX11_loom q.1 q.2) = true := by decide +kernel
theorem ok_X11_thread : bk_X11_thread.all (fun q => hr_ck cX11_thread q.1 q.2) = true := by decide +kernel
theorem ok_X11_mixed : bk_X11_mixed.all (fun q => hr_ck cX11_mixed q.1 q.2) = true := by decide +kernel
theorem ok_X11_findNeeds : bk_X11_findNeeds.all (fun q => hr_ck cX11_findNeeds q.1 q.2) = true := by decide +kernel
theorem ok_X11_colourOf : bk_X11_colourOf.all (fun q => hr_ck cX11_colourOf q.1 q.2) = true := by decide +kernel
theorem ok_X11_isBorneHue : bk_X11_isBorneHue.all (fun q => hr_ck cX11_isBorneHue q.1 q.2) = true := by decide +kernel
theorem ok_X11_mix : bk_X11_mix.all (fun q => hr_ck cX11_mix q.1 q.2) = true := by decide +kernel
theorem ok_X11_leastOf : bk_X11_leastOf.all (fun q => hr_ck cX11_leastOf q.1 q.2) = true := by decide +kernel
theorem ok_X11_findCouples : bk_X11_findCouples.all (fun q => hr_ck cX11_findCouples q.1 q.2) = true := by decide +kernel
theorem ok_X11_allyOf : bk_X11_allyOf.all (fun q => hr_ck cX11_allyOf q.1 q.2) = true := by decide +kernel
theorem ok_X11_flags : bk_X11_flags.all (fun q => hr_ck cX11_flags q.1 q.2) = true := by decide +kernel
theorem ok_X11_gainOf : bk_X11_gainOf.all (fun q => hr_ck cX11_gainOf q.1 q.2) = true := by decide +kernel
theorem ok_X11_isCouple : bk_X11_isCouple.all (fun q => hr_ck cX11_isCouple q.1 q.2) = true := by decide +kernel
theorem ok_X11_gain : bk_X11_gain.all (fun q => hr_ck cX11_gain q.1 q.2) = true := by decide +kernel
theorem ok_X11_isRest : bk_X11_isRest.all (fun q => hr_ck cX11_isRest q.1 q.2) = true := by decide +kernel
theorem ok_X11_rest : bk_X11_rest.all (fun q => hr_ck cX11_rest q.1 q.2) = true := by decide +kernel
theorem ok_X11_spread : bk_X11_spread.all (fun q => hr_ck cX11_spread q.1 q.2) = true := by decide +kernel
theorem ok_X11_sneezes : bk_X11_sneezes.all (fun q => hr_ck cX11_sneezes q.1 q.2) = true := by decide +kernel
theorem ok_X11_sneezeOf : bk_X11_sneezeOf.all (fun q => hr_ck cX11_sneezeOf q.1 q.2) = true := by decide +kernel
theorem ok_X11_hasSight : bk_X11_hasSight.all (fun q => hr_ck cX11_hasSight q.1 q.2) = true := by decide +kernel
theorem ok_X11_sneeze : bk_X11_sneeze.all (fun q => hr_ck cX11_sneeze q.1 q.2) = true := by decide +kernel
theorem ok_X11_laySingle : bk_X11_laySingle.all (fun q => hr_ck cX11_laySingle q.1 q.2) = true := by decide +kernel
theorem ok_X11_holdsOf : bk_X11_holdsOf.all (fun q => hr_ck cX11_holdsOf q.1 q.2) = true := by decide +kernel
theorem ok_X11_isFitting : bk_X11_isFitting.all (fun q => hr_ck cX11_isFitting q.1 q.2) = true := by decide +kernel
theorem ok_X11_layFits : bk_X11_layFits.all (fun q => hr_ck cX11_layFits q.1 q.2) = true := by decide +kernel
theorem ok_X11_tells : bk_X11_tells.all (fun q => hr_ck cX11_tells q.1 q.2) = true := by decide +kernel
theorem ok_X11_fits : bk_X11_fits.all (fun q => hr_ck cX11_fits q.1 q.2) = true := by decide +kernel
theorem ok_X11_guests : bk_X11_guests.all (fun q => hr_ck cX11_guests q.1 q.2) = true := by decide +kernel
theorem ok_X11_worn : bk_X11_worn.all (fun q => hr_ck cX11_worn q.1 q.2) = true := by decide +kernel
theorem ok_X11_hasDinner : bk_X11_hasDinner.all (fun q => hr_ck cX11_hasDinner q.1 q.2) = true := by decide +kernel
theorem ok_X11_guest : bk_X11_guest.all (fun q => hr_ck cX11_guest q.1 q.2) = true := by decide +kernel
theorem ok_X11_layDinner : bk_X11_layDinner.all (fun q => hr_ck cX11_layDinner q.1 q.2) = true := by decide +kernel
theorem ok_X11_findRest : bk_X11_findRest.all (fun q => hr_ck cX11_findRest q.1 q.2) = true := by decide +kernel
theorem ok_X11_allWays : bk_X11_allWays.all (fun q => hr_ck cX11_allWays q.1 q.2) = true := by decide +kernel
theorem ok_X11_ways : bk_X11_ways.all (fun q => hr_ck cX11_ways q.1 q.2) = true := by decide +kernel
theorem ok_X11_wornAt : bk_X11_wornAt.all (fun q => hr_ck cX11_wornAt q.1 q.2) = true := by decide +kernel
theorem ok_X11_few : bk_X11_few.all (fun q => hr_ck cX11_few q.1 q.2) = true := by decide +kernel
theorem ok_X11_dinner : bk_X11_dinner.all (fun q => hr_ck cX11_dinner q.1 q.2) = true := by decide +kernel
theorem ok_X11_draw : bk_X11_draw.all (fun q => hr_ck cX11_draw q.1 q.2) = true := by decide +kernel
theorem ok_X11_picked : bk_X11_picked.all (fun q => hr_ck cX11_picked q.1 q.2) = true := by decide +kernel
theorem ok_X11_evening : bk_X11_evening.all (fun q => hr_ck cX11_evening q.1 q.2) = true := by decide +kernel
theorem ok_X11_drawn : bk_X11_drawn.all (fun q => hr_ck cX11_drawn q.1 q.2) = true := by decide +kernel
theorem ok_X11_count : bk_X11_count.all (fun q => hr_ck cX11_count q.1 q.2) = true := by decide +kernel
theorem ok_X11_image : bk_X11_image.all (fun q => hr_ck cX11_image q.1 q.2) = true := by decide +kernel
theorem ok_X11_again : bk_X11_again.all (fun q => hr_ck cX11_again q.1 q.2) = true := by decide +kernel
theorem ok_J6_bitCount_0f7a4 : bk_J6_bitCount_0f7a4.all (fun q => hr_ck cJ6_bitCount_0f7a4 q.1 q.2) = true := by decide +kernel
abbrev hr_okq (x : hr_MI) : Prop := x.2.2.2.2.2.2.2.all (fun q => hr_ck x.2.1 q.1 q.2) = true
theorem hr_ok0 : ∀ x ∈ hr_mL0, hr_okq x := List.forall_mem_cons.mpr ⟨ok_X0_repaint, List.forall_mem_cons.mpr ⟨ok_X0_costOf, List.forall_mem_cons.mpr ⟨ok_X0_leastCost, List.forall_mem_cons.mpr ⟨ok_X0_hueOfCost, List.forall_mem_cons.mpr ⟨ok_X0_blend, List.forall_mem_cons.mpr ⟨ok_X0_enqueue, List.forall_mem_cons.mpr ⟨ok_X0_pour, List.forall_mem_cons.mpr ⟨ok_X1_forget, List.forall_mem_cons.mpr ⟨ok_X1_gatherHues, List.forall_mem_cons.mpr ⟨ok_X1_gatherPictures, List.forall_mem_cons.mpr ⟨ok_X1_join, List.forall_mem_cons.mpr ⟨ok_X1_findFoes, List.forall_mem_cons.mpr ⟨ok_X1_everyone, List.forall_mem_cons.mpr ⟨ok_X1_lineUp, List.forall_mem_cons.mpr ⟨ok_X1_ordersBegunBy, List.forall_mem_cons.mpr ⟨ok_X1_findFirstOrder, List.forall_mem_cons.mpr ⟨ok_X1_leastBeginner, List.forall_mem_cons.mpr ⟨ok_X1_placed, List.forall_mem_cons.mpr ⟨ok_X1_findQuiet, List.forall_mem_cons.mpr ⟨ok_X1_fewestParts, List.forall_mem_cons.mpr ⟨ok_X1_fewestPartsOf, List.forall_mem_cons.mpr ⟨ok_X1_greatestQuarrel, List.forall_mem_cons.mpr ⟨ok_X1_isQuarrel, List.forall_mem_cons.mpr ⟨ok_X1_fewestHidden, List.forall_mem_cons.mpr ⟨ok_X1_couple, List.forall_mem_cons.mpr ⟨ok_X1_mostCouplesOf, List.forall_mem_cons.mpr ⟨ok_X1_leastAlly, List.forall_mem_cons.mpr ⟨ok_X2_forget, List.forall_mem_cons.mpr ⟨ok_X2_look, List.forall_mem_cons.mpr ⟨ok_X2_propose, fun _ h => absurd h List.not_mem_nil⟩⟩⟩⟩⟩⟩⟩⟩⟩⟩⟩⟩⟩⟩⟩⟩⟩⟩⟩⟩⟩⟩⟩⟩⟩⟩⟩⟩⟩⟩
theorem hr_ok1 : ∀ x ∈ hr_mL1, hr_okq x := List.forall_mem_cons.mpr ⟨ok_X2_fitting, List.forall_mem_cons.mpr ⟨ok_X2_mostTelling, List.forall_mem_cons.mpr ⟨ok_X2_countSums, List.forall_mem_cons.mpr ⟨ok_X3_sort, List.forall_mem_cons.mpr ⟨ok_X3_code, List.forall_mem_cons.mpr ⟨ok_X3_firstCanBe, List.forall_mem_cons.mpr ⟨ok_X3_secondCanBe, List.forall_mem_cons.mpr ⟨ok_X3_thirdCanBe, List.forall_mem_cons.mpr ⟨ok_X4_clear, List.forall_mem_cons.mpr ⟨ok_X4_addHue, List.forall_mem_cons.mpr ⟨ok_X4_addRule, List.forall_mem_cons.mpr ⟨ok_X4_setLikes, List.forall_mem_cons.mpr ⟨ok_X4_copyFrom, List.forall_mem_cons.mpr ⟨ok_X4_all, List.forall_mem_cons.mpr ⟨ok_X4_has, List.forall_mem_cons.mpr ⟨ok_X4_hasAll, List.forall_mem_cons.mpr ⟨ok_X4_part, List.forall_mem_cons.mpr ⟨ok_X4_total, List.forall_mem_cons.mpr ⟨ok_X4_strengthOf, List.forall_mem_cons.mpr ⟨ok_X4_foesOf, List.forall_mem_cons.mpr ⟨ok_X4_foesOfAny, List.forall_mem_cons.mpr ⟨ok_X4_answer, List.forall_mem_cons.mpr ⟨ok_X4_partOrLikes, List.forall_mem_cons.mpr ⟨ok_X4_meek, List.forall_mem_cons.mpr ⟨ok_X4_fiercest, List.forall_mem_cons.mpr ⟨ok_X4_dotColour, List.forall_mem_cons.mpr ⟨ok_X4_findDot, List.forall_mem_cons.mpr ⟨ok_X4_foesOfColour, List.forall_mem_cons.mpr ⟨ok_X4_strengthWith, List.forall_mem_cons.mpr ⟨ok_X4_wouldHold, fun _ h => absurd h List.not_mem_nil⟩⟩⟩⟩⟩⟩⟩⟩⟩⟩⟩⟩⟩⟩⟩⟩⟩⟩⟩⟩⟩⟩⟩⟩⟩⟩⟩⟩⟩⟩
theorem hr_ok2 : ∀ x ∈ hr_mL2, hr_okq x := List.forall_mem_cons.mpr ⟨ok_X4_gainOf, List.forall_mem_cons.mpr ⟨ok_X4_isRest, List.forall_mem_cons.mpr ⟨ok_X4_worstOf, List.forall_mem_cons.mpr ⟨ok_X4_strengthsOf, List.forall_mem_cons.mpr ⟨ok_X4_findStrengths, List.forall_mem_cons.mpr ⟨ok_X4_strengthOfHues, List.forall_mem_cons.mpr ⟨ok_X4_findHolders, List.forall_mem_cons.mpr ⟨ok_X4_addHolders, List.forall_mem_cons.mpr ⟨ok_X4_measure, List.forall_mem_cons.mpr ⟨ok_X4_measureOf, List.forall_mem_cons.mpr ⟨ok_X4_touches, List.forall_mem_cons.mpr ⟨ok_X5_read, List.forall_mem_cons.mpr ⟨ok_X5_note, List.forall_mem_cons.mpr ⟨ok_X5_readLine, List.forall_mem_cons.mpr ⟨ok_X5_readNumbers, List.forall_mem_cons.mpr ⟨ok_X5_readGuestHues, List.forall_mem_cons.mpr ⟨ok_X5_take, List.forall_mem_cons.mpr ⟨ok_X5_isFull, List.forall_mem_cons.mpr ⟨ok_X5_badPlace, List.forall_mem_cons.mpr ⟨ok_X5_keepInPalette, List.forall_mem_cons.mpr ⟨ok_X5_keepInRoll, List.forall_mem_cons.mpr ⟨ok_X5_lineNamed, List.forall_mem_cons.mpr ⟨ok_X5_spells, List.forall_mem_cons.mpr ⟨ok_X5_advance, List.forall_mem_cons.mpr ⟨ok_X5_readDigits, List.forall_mem_cons.mpr ⟨ok_X5_byteAt, List.forall_mem_cons.mpr ⟨ok_X5_isBlank, List.forall_mem_cons.mpr ⟨ok_X5_isLetter, List.forall_mem_cons.mpr ⟨ok_X5_isDigit, List.forall_mem_cons.mpr ⟨ok_X6_clear, fun _ h => absurd h List.not_mem_nil⟩⟩⟩⟩⟩⟩⟩⟩⟩⟩⟩⟩⟩⟩⟩⟩⟩⟩⟩⟩⟩⟩⟩⟩⟩⟩⟩⟩⟩⟩
theorem hr_ok3 : ∀ x ∈ hr_mL3, hr_okq x := List.forall_mem_cons.mpr ⟨ok_X6_has, List.forall_mem_cons.mpr ⟨ok_X6_name, List.forall_mem_cons.mpr ⟨ok_X6_add, List.forall_mem_cons.mpr ⟨ok_X6_copyFrom, List.forall_mem_cons.mpr ⟨ok_X7_seat, List.forall_mem_cons.mpr ⟨ok_X7_waysBegunBy, List.forall_mem_cons.mpr ⟨ok_X7_waysBehind, List.forall_mem_cons.mpr ⟨ok_X7_dressAtFirst, List.forall_mem_cons.mpr ⟨ok_X7_fewestHues, List.forall_mem_cons.mpr ⟨ok_X7_canDress, List.forall_mem_cons.mpr ⟨ok_X7_canDressFrom, List.forall_mem_cons.mpr ⟨ok_X7_dine, List.forall_mem_cons.mpr ⟨ok_X7_hueAt, List.forall_mem_cons.mpr ⟨ok_X7_strengthsRound, List.forall_mem_cons.mpr ⟨ok_X8_put, List.forall_mem_cons.mpr ⟨ok_X8_slotFor, List.forall_mem_cons.mpr ⟨ok_X8_keep, List.forall_mem_cons.mpr ⟨ok_X8_paletteAt, List.forall_mem_cons.mpr ⟨ok_X8_rollAt, List.forall_mem_cons.mpr ⟨ok_X8_copyFrom, List.forall_mem_cons.mpr ⟨ok_X8_rollIndex, List.forall_mem_cons.mpr ⟨ok_X9_go, List.forall_mem_cons.mpr ⟨ok_X9_begin, List.forall_mem_cons.mpr ⟨ok_X9_act, List.forall_mem_cons.mpr ⟨ok_X9_move, List.forall_mem_cons.mpr ⟨ok_X9_passHour, List.forall_mem_cons.mpr ⟨ok_X9_rashOf, List.forall_mem_cons.mpr ⟨ok_X9_gatherThings, List.forall_mem_cons.mpr ⟨ok_X9_addThing, List.forall_mem_cons.mpr ⟨ok_X9_markFading, fun _ h => absurd h List.not_mem_nil⟩⟩⟩⟩⟩⟩⟩⟩⟩⟩⟩⟩⟩⟩⟩⟩⟩⟩⟩⟩⟩⟩⟩⟩⟩⟩⟩⟩⟩⟩
theorem hr_ok4 : ∀ x ∈ hr_mL4, hr_okq x := List.forall_mem_cons.mpr ⟨ok_X9_answer, List.forall_mem_cons.mpr ⟨ok_X9_answerOf, List.forall_mem_cons.mpr ⟨ok_X10_feed, List.forall_mem_cons.mpr ⟨ok_X10_end, List.forall_mem_cons.mpr ⟨ok_X10_text, List.forall_mem_cons.mpr ⟨ok_X10_fault, List.forall_mem_cons.mpr ⟨ok_X10_palette, List.forall_mem_cons.mpr ⟨ok_X10_rule, List.forall_mem_cons.mpr ⟨ok_X10_strength, List.forall_mem_cons.mpr ⟨ok_X10_minds, List.forall_mem_cons.mpr ⟨ok_X10_gallery, List.forall_mem_cons.mpr ⟨ok_X10_deed, List.forall_mem_cons.mpr ⟨ok_X10_stop, List.forall_mem_cons.mpr ⟨ok_X10_state, List.forall_mem_cons.mpr ⟨ok_X10_hung, List.forall_mem_cons.mpr ⟨ok_X10_rows, List.forall_mem_cons.mpr ⟨ok_X10_row, List.forall_mem_cons.mpr ⟨ok_X10_repainted, List.forall_mem_cons.mpr ⟨ok_X10_loom, List.forall_mem_cons.mpr ⟨ok_X10_thread, List.forall_mem_cons.mpr ⟨ok_X10_mix, List.forall_mem_cons.mpr ⟨ok_X10_flags, List.forall_mem_cons.mpr ⟨ok_X10_gain, List.forall_mem_cons.mpr ⟨ok_X10_rest, List.forall_mem_cons.mpr ⟨ok_X10_spread, List.forall_mem_cons.mpr ⟨ok_X10_sneeze, List.forall_mem_cons.mpr ⟨ok_X10_fits, List.forall_mem_cons.mpr ⟨ok_X10_guest, List.forall_mem_cons.mpr ⟨ok_X10_ways, List.forall_mem_cons.mpr ⟨ok_X10_dinner, fun _ h => absurd h List.not_mem_nil⟩⟩⟩⟩⟩⟩⟩⟩⟩⟩⟩⟩⟩⟩⟩⟩⟩⟩⟩⟩⟩⟩⟩⟩⟩⟩⟩⟩⟩⟩
theorem hr_ok5 : ∀ x ∈ hr_mL5, hr_okq x := List.forall_mem_cons.mpr ⟨ok_X10_drawn, List.forall_mem_cons.mpr ⟨ok_X10_count, List.forall_mem_cons.mpr ⟨ok_X10_image, List.forall_mem_cons.mpr ⟨ok_X10_again, List.forall_mem_cons.mpr ⟨ok_X10_forgetAnswers, List.forall_mem_cons.mpr ⟨ok_X10_lineUpPictures, List.forall_mem_cons.mpr ⟨ok_X10_lineUpHues, List.forall_mem_cons.mpr ⟨ok_X10_lineOf, List.forall_mem_cons.mpr ⟨ok_X10_goTogether, List.forall_mem_cons.mpr ⟨ok_X10_isTone, List.forall_mem_cons.mpr ⟨ok_X10_holdsBit, List.forall_mem_cons.mpr ⟨ok_X10_leastOf, List.forall_mem_cons.mpr ⟨ok_X11_in, List.forall_mem_cons.mpr ⟨ok_X11_has, List.forall_mem_cons.mpr ⟨ok_X11_greater, List.forall_mem_cons.mpr ⟨ok_X11_lesser, List.forall_mem_cons.mpr ⟨ok_X11_size, List.forall_mem_cons.mpr ⟨ok_X11_ones, List.forall_mem_cons.mpr ⟨ok_X11_copyRow, List.forall_mem_cons.mpr ⟨ok_X11_copyAll, List.forall_mem_cons.mpr ⟨ok_X11_is, List.forall_mem_cons.mpr ⟨ok_X11_feed, List.forall_mem_cons.mpr ⟨ok_X11_four, List.forall_mem_cons.mpr ⟨ok_X11_end, List.forall_mem_cons.mpr ⟨ok_X11_see, List.forall_mem_cons.mpr ⟨ok_X11_token, List.forall_mem_cons.mpr ⟨ok_X11_fails, List.forall_mem_cons.mpr ⟨ok_X11_later, List.forall_mem_cons.mpr ⟨ok_X11_takeBut, List.forall_mem_cons.mpr ⟨ok_X11_take, fun _ h => absurd h List.not_mem_nil⟩⟩⟩⟩⟩⟩⟩⟩⟩⟩⟩⟩⟩⟩⟩⟩⟩⟩⟩⟩⟩⟩⟩⟩⟩⟩⟩⟩⟩⟩
theorem hr_ok6 : ∀ x ∈ hr_mL6, hr_okq x := List.forall_mem_cons.mpr ⟨ok_X11_full, List.forall_mem_cons.mpr ⟨ok_X11_keep, List.forall_mem_cons.mpr ⟨ok_X11_hueLine, List.forall_mem_cons.mpr ⟨ok_X11_likesLine, List.forall_mem_cons.mpr ⟨ok_X11_ruleNumbers, List.forall_mem_cons.mpr ⟨ok_X11_paletteLine, List.forall_mem_cons.mpr ⟨ok_X11_galleryLine, List.forall_mem_cons.mpr ⟨ok_X11_deedBy, List.forall_mem_cons.mpr ⟨ok_X11_deedNumbers, List.forall_mem_cons.mpr ⟨ok_X11_dayLine, List.forall_mem_cons.mpr ⟨ok_X11_sightLine, List.forall_mem_cons.mpr ⟨ok_X11_dinnerLine, List.forall_mem_cons.mpr ⟨ok_X11_lineOf, List.forall_mem_cons.mpr ⟨ok_X11_lines, List.forall_mem_cons.mpr ⟨ok_X11_readText, List.forall_mem_cons.mpr ⟨ok_X11_store, List.forall_mem_cons.mpr ⟨ok_X11_storeAll, List.forall_mem_cons.mpr ⟨ok_X11_text, List.forall_mem_cons.mpr ⟨ok_X11_fault, List.forall_mem_cons.mpr ⟨ok_X11_of, List.forall_mem_cons.mpr ⟨ok_X11_part, List.forall_mem_cons.mpr ⟨ok_X11_ruleOf, List.forall_mem_cons.mpr ⟨ok_X11_layHue, List.forall_mem_cons.mpr ⟨ok_X11_layColour, List.forall_mem_cons.mpr ⟨ok_X11_allParts, List.forall_mem_cons.mpr ⟨ok_X11_holds, List.forall_mem_cons.mpr ⟨ok_X11_strengthOf, List.forall_mem_cons.mpr ⟨ok_X11_hand, List.forall_mem_cons.mpr ⟨ok_X11_isHue, List.forall_mem_cons.mpr ⟨ok_X11_clash, fun _ h => absurd h List.not_mem_nil⟩⟩⟩⟩⟩⟩⟩⟩⟩⟩⟩⟩⟩⟩⟩⟩⟩⟩⟩⟩⟩⟩⟩⟩⟩⟩⟩⟩⟩⟩
theorem hr_ok7 : ∀ x ∈ hr_mL7, hr_okq x := List.forall_mem_cons.mpr ⟨ok_X11_mindsColour, List.forall_mem_cons.mpr ⟨ok_X11_isBorne, List.forall_mem_cons.mpr ⟨ok_X11_clashes, List.forall_mem_cons.mpr ⟨ok_X11_meek, List.forall_mem_cons.mpr ⟨ok_X11_fierce, List.forall_mem_cons.mpr ⟨ok_X11_partsOf, List.forall_mem_cons.mpr ⟨ok_X11_dot, List.forall_mem_cons.mpr ⟨ok_X11_palette, List.forall_mem_cons.mpr ⟨ok_X11_rule, List.forall_mem_cons.mpr ⟨ok_X11_strength, List.forall_mem_cons.mpr ⟨ok_X11_minds, List.forall_mem_cons.mpr ⟨ok_X11_pictures, List.forall_mem_cons.mpr ⟨ok_X11_limit, List.forall_mem_cons.mpr ⟨ok_X11_hueOf, List.forall_mem_cons.mpr ⟨ok_X11_areaOf, List.forall_mem_cons.mpr ⟨ok_X11_hasGallery, List.forall_mem_cons.mpr ⟨ok_X11_gallery, List.forall_mem_cons.mpr ⟨ok_X11_layGallery, List.forall_mem_cons.mpr ⟨ok_X11_deeds, List.forall_mem_cons.mpr ⟨ok_X11_deedOf, List.forall_mem_cons.mpr ⟨ok_X11_hasDay, List.forall_mem_cons.mpr ⟨ok_X11_deed, List.forall_mem_cons.mpr ⟨ok_X11_begin, List.forall_mem_cons.mpr ⟨ok_X11_thing, List.forall_mem_cons.mpr ⟨ok_X11_rash, List.forall_mem_cons.mpr ⟨ok_X11_isClashing, List.forall_mem_cons.mpr ⟨ok_X11_hour, List.forall_mem_cons.mpr ⟨ok_X11_does, List.forall_mem_cons.mpr ⟨ok_X11_play, List.forall_mem_cons.mpr ⟨ok_X11_stop, fun _ h => absurd h List.not_mem_nil⟩⟩⟩⟩⟩⟩⟩⟩⟩⟩⟩⟩⟩⟩⟩⟩⟩⟩⟩⟩⟩⟩⟩⟩⟩⟩⟩⟩⟩⟩
theorem hr_ok8 : ∀ x ∈ hr_mL8, hr_okq x := List.forall_mem_cons.mpr ⟨ok_X11_state, List.forall_mem_cons.mpr ⟨ok_X11_mind, List.forall_mem_cons.mpr ⟨ok_X11_strengthsOf, List.forall_mem_cons.mpr ⟨ok_X11_isSet, List.forall_mem_cons.mpr ⟨ok_X11_greatestSet, List.forall_mem_cons.mpr ⟨ok_X11_curtains, List.forall_mem_cons.mpr ⟨ok_X11_fewestRooms, List.forall_mem_cons.mpr ⟨ok_X11_worst, List.forall_mem_cons.mpr ⟨ok_X11_hung, List.forall_mem_cons.mpr ⟨ok_X11_follows, List.forall_mem_cons.mpr ⟨ok_X11_findBehind, List.forall_mem_cons.mpr ⟨ok_X11_allRows, List.forall_mem_cons.mpr ⟨ok_X11_rowAt, List.forall_mem_cons.mpr ⟨ok_X11_layPictures, List.forall_mem_cons.mpr ⟨ok_X11_layThreads, List.forall_mem_cons.mpr ⟨ok_X11_rows, List.forall_mem_cons.mpr ⟨ok_X11_row, List.forall_mem_cons.mpr ⟨ok_X11_paintCost, List.forall_mem_cons.mpr ⟨ok_X11_findPaint, List.forall_mem_cons.mpr ⟨ok_X11_paintedAt, List.forall_mem_cons.mpr ⟨ok_X11_repainted, List.forall_mem_cons.mpr ⟨ok_X11_loom, List.forall_mem_cons.mpr ⟨ok_X11_thread, List.forall_mem_cons.mpr ⟨ok_X11_mixed, List.forall_mem_cons.mpr ⟨ok_X11_findNeeds, List.forall_mem_cons.mpr ⟨ok_X11_colourOf, List.forall_mem_cons.mpr ⟨ok_X11_isBorneHue, List.forall_mem_cons.mpr ⟨ok_X11_mix, List.forall_mem_cons.mpr ⟨ok_X11_leastOf, List.forall_mem_cons.mpr ⟨ok_X11_findCouples, fun _ h => absurd h List.not_mem_nil⟩⟩⟩⟩⟩⟩⟩⟩⟩⟩⟩⟩⟩⟩⟩⟩⟩⟩⟩⟩⟩⟩⟩⟩⟩⟩⟩⟩⟩⟩
theorem hr_ok9 : ∀ x ∈ hr_mL9, hr_okq x := List.forall_mem_cons.mpr ⟨ok_X11_allyOf, List.forall_mem_cons.mpr ⟨ok_X11_flags, List.forall_mem_cons.mpr ⟨ok_X11_gainOf, List.forall_mem_cons.mpr ⟨ok_X11_isCouple, List.forall_mem_cons.mpr ⟨ok_X11_gain, List.forall_mem_cons.mpr ⟨ok_X11_isRest, List.forall_mem_cons.mpr ⟨ok_X11_rest, List.forall_mem_cons.mpr ⟨ok_X11_spread, List.forall_mem_cons.mpr ⟨ok_X11_sneezes, List.forall_mem_cons.mpr ⟨ok_X11_sneezeOf, List.forall_mem_cons.mpr ⟨ok_X11_hasSight, List.forall_mem_cons.mpr ⟨ok_X11_sneeze, List.forall_mem_cons.mpr ⟨ok_X11_laySingle, List.forall_mem_cons.mpr ⟨ok_X11_holdsOf, List.forall_mem_cons.mpr ⟨ok_X11_isFitting, List.forall_mem_cons.mpr ⟨ok_X11_layFits, List.forall_mem_cons.mpr ⟨ok_X11_tells, List.forall_mem_cons.mpr ⟨ok_X11_fits, List.forall_mem_cons.mpr ⟨ok_X11_guests, List.forall_mem_cons.mpr ⟨ok_X11_worn, List.forall_mem_cons.mpr ⟨ok_X11_hasDinner, List.forall_mem_cons.mpr ⟨ok_X11_guest, List.forall_mem_cons.mpr ⟨ok_X11_layDinner, List.forall_mem_cons.mpr ⟨ok_X11_findRest, List.forall_mem_cons.mpr ⟨ok_X11_allWays, List.forall_mem_cons.mpr ⟨ok_X11_ways, List.forall_mem_cons.mpr ⟨ok_X11_wornAt, List.forall_mem_cons.mpr ⟨ok_X11_few, List.forall_mem_cons.mpr ⟨ok_X11_dinner, List.forall_mem_cons.mpr ⟨ok_X11_draw, fun _ h => absurd h List.not_mem_nil⟩⟩⟩⟩⟩⟩⟩⟩⟩⟩⟩⟩⟩⟩⟩⟩⟩⟩⟩⟩⟩⟩⟩⟩⟩⟩⟩⟩⟩⟩
theorem hr_ok10 : ∀ x ∈ hr_mL10, hr_okq x := List.forall_mem_cons.mpr ⟨ok_X11_picked, List.forall_mem_cons.mpr ⟨ok_X11_evening, List.forall_mem_cons.mpr ⟨ok_X11_drawn, List.forall_mem_cons.mpr ⟨ok_X11_count, List.forall_mem_cons.mpr ⟨ok_X11_image, List.forall_mem_cons.mpr ⟨ok_X11_again, List.forall_mem_cons.mpr ⟨ok_J6_bitCount_0f7a4, fun _ h => absurd h List.not_mem_nil⟩⟩⟩⟩⟩⟩⟩
theorem hr_okL : ∀ x ∈ hr_mL, hr_okq x := List.forall_mem_append.mpr ⟨hr_ok0, List.forall_mem_append.mpr ⟨hr_ok1, List.forall_mem_append.mpr ⟨hr_ok2, List.forall_mem_append.mpr ⟨hr_ok3, List.forall_mem_append.mpr ⟨hr_ok4, List.forall_mem_append.mpr ⟨hr_ok5, List.forall_mem_append.mpr ⟨hr_ok6, List.forall_mem_append.mpr ⟨hr_ok7, List.forall_mem_append.mpr ⟨hr_ok8, List.forall_mem_append.mpr ⟨hr_ok9, hr_ok10⟩⟩⟩⟩⟩⟩⟩⟩⟩⟩
