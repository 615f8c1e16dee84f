/-! WHAT THE METHODS ARE and which words of the tables link them; written by a program (wip/whole/gen_05.py). -/
noncomputable def m_ws : List Cond := lw_tbl.filter goodWord
def m_cns : List String := [RX0, RX1, RX2, RX3, RX4, RX5, RX6, RX7, RX8, RL]
def m_cn (c : Nat) : String := m_cns.getD c ""
abbrev m_In : Type := MethodName × (ByteArray × (Nat × (Option FieldType × (Nat × List (Nat × Nat × Nat × Nat)))))
noncomputable def m_inf0 : List m_In := [(yX0_init, (cX0_init, (2, (none, (0, []))))), (yX0_setTo, (cX0_setTo, (3, (none, (0, []))))), (yX0_latestHolder, (cX0_latestHolder, (3, (some .int, (0, []))))), (yX0_hasPassed, (cX0_hasPassed, (3, (some .boolean, (0, []))))), (yX0_nameHand, (cX0_nameHand, (7, (none, (0, []))))), (yX0_ask, (cX0_ask, (5, (some .int, (0, []))))), (yX0_dropQuestion, (cX0_dropQuestion, (3, (none, (0, []))))), (yX0_suppose, (cX0_suppose, (4, (none, (0, []))))), (yX0_tell, (cX0_tell, (4, (none, (0, []))))), (yX1_init, (cX1_init, (1, (none, (1, []))))), (yX1_reckon, (cX1_reckon, (4, (none, (1, []))))), (yX1_clear, (cX1_clear, (2, (none, (1, []))))), (yX1_claimOn, (cX1_claimOn, (6, (none, (1, []))))), (yX1_payUp, (cX1_payUp, (3, (none, (1, []))))), (yX1_payOwner, (cX1_payOwner, (3, (none, (1, []))))), (yX1_titleFor, (cX1_titleFor, (5, (some .int, (1, []))))), (yX2_init, (cX2_init, (1, (none, (2, []))))), (yX2_setTo, (cX2_setTo, (2, (none, (2, []))))), (yX2_add, (cX2_add, (3, (some .boolean, (2, []))))), (yX2_all, (cX2_all, (3, (some .int, (2, []))))), (yX2_allOf, (cX2_allOf, (2, (some .int, (2, []))))), (yX2_lostLast, (cX2_lostLast, (7, (some .int, (2, []))))), (yX3_init, (cX3_init, (1, (none, (3, []))))), (yX3_clear, (cX3_clear, (1, (none, (3, []))))), (yX3_setTo, (cX3_setTo, (2, (none, (3, []))))), (yX3_entry, (cX3_entry, (2, (some .int, (3, []))))), (yX3_hasFact, (cX3_hasFact, (2, (some .boolean, (3, []))))), (yX3_tellFact, (cX3_tellFact, (4, (none, (3, []))))), (yX4_init, (cX4_init, (1, (none, (4, []))))), (yX4_clear, (cX4_clear, (1, (none, (4, []))))), (yX4_isFull, (cX4_isFull, (1, (some .boolean, (4, []))))), (yX4_beginClause, (cX4_beginClause, (3, (none, (4, [])))))]
noncomputable def m_inf1 : List m_In := [(yX4_include, (cX4_include, (2, (none, (4, []))))), (yX4_addStep, (cX4_addStep, (2, (none, (4, []))))), (yX4_holdsFor, (cX4_holdsFor, (6, (some .boolean, (4, []))))), (yX4_owedFor, (cX4_owedFor, (4, (some .int, (4, []))))), (yX4_claimFor, (cX4_claimFor, (5, (some .int, (4, []))))), (yX4_allows, (cX4_allows, (4, (some .boolean, (4, []))))), (yX4_doubles, (cX4_doubles, (3, (some .boolean, (4, []))))), (yX4_isFor, (cX4_isFor, (4, (some .boolean, (4, []))))), (yX4_has, (cX4_has, (2, (some .boolean, (4, []))))), (yX4_work, (cX4_work, (6, (some .int, (4, []))))), (yX4_join, (cX4_join, (3, (some .int, (4, []))))), (yX5_init, (cX5_init, (1, (none, (5, []))))), (yX5_readLaw, (cX5_readLaw, (6, (some .int, (5, []))))), (yX5_readClause, (cX5_readClause, (4, (some .boolean, (5, []))))), (yX5_readMixing, (cX5_readMixing, (2, (some .boolean, (5, []))))), (yX5_spare, (cX5_spare, (1, (some .boolean, (5, []))))), (yX5_readHarms, (cX5_readHarms, (3, (some .boolean, (5, []))))), (yX5_readHarm, (cX5_readHarm, (2, (some .boolean, (5, []))))), (yX5_readTerms, (cX5_readTerms, (3, (some .boolean, (5, []))))), (yX5_readTerm, (cX5_readTerm, (1, (some .boolean, (5, []))))), (yX5_readEither, (cX5_readEither, (3, (some .boolean, (5, []))))), (yX5_readBoth, (cX5_readBoth, (3, (some .boolean, (5, []))))), (yX5_readCondition, (cX5_readCondition, (3, (some .boolean, (5, []))))), (yX5_readNot, (cX5_readNot, (1, (some .boolean, (5, []))))), (yX5_takeComparison, (cX5_takeComparison, (1, (some .boolean, (5, []))))), (yX5_readSum, (cX5_readSum, (4, (some .boolean, (5, []))))), (yX5_readProduct, (cX5_readProduct, (4, (some .boolean, (5, []))))), (yX5_readUnit, (cX5_readUnit, (3, (some .boolean, (5, []))))), (yX5_readNumber, (cX5_readNumber, (1, (some .boolean, (5, []))))), (yX5_readChoice, (cX5_readChoice, (3, (some .boolean, (5, []))))), (yX5_enter, (cX5_enter, (1, (some .boolean, (5, []))))), (yX5_leave, (cX5_leave, (2, (some .boolean, (5, [])))))]
noncomputable def m_inf2 : List m_In := [(yX5_take, (cX5_take, (2, (some .boolean, (5, []))))), (yX5_takeWord, (cX5_takeWord, (2, (some .boolean, (5, []))))), (yX5_isNumber, (cX5_isNumber, (3, (some .boolean, (5, []))))), (yX5_fail, (cX5_fail, (2, (some .boolean, (5, []))))), (yX5_nextToken, (cX5_nextToken, (1, (none, (5, []))))), (yX5_isLetter, (cX5_isLetter, (1, (some .boolean, (5, []))))), (yX5_isDigit, (cX5_isDigit, (1, (some .boolean, (5, []))))), (yX5_isWord, (cX5_isWord, (2, (some .boolean, (5, []))))), (yX5_wordOf, (cX5_wordOf, (5, (some .int, (5, []))))), (yX5_isSame, (cX5_isSame, (5, (some .boolean, (5, []))))), (yX5_bitsOf, (cX5_bitsOf, (2, (some .int, (5, []))))), (yX6_init, (cX6_init, (1, (none, (6, []))))), (yX6_setTo, (cX6_setTo, (2, (none, (6, []))))), (yX7_init, (cX7_init, (2, (none, (7, []))))), (yX7_feed, (cX7_feed, (6, (some .int, (7, []))))), (yX7_law, (cX7_law, (3, (some .int, (7, []))))), (yX7_fault, (cX7_fault, (1, (some .int, (7, []))))), (yX7_force, (cX7_force, (3, (some .int, (7, []))))), (yX7_words, (cX7_words, (9, (some .int, (7, []))))), (yX7_lets, (cX7_lets, (4, (some .boolean, (7, []))))), (yX7_pass, (cX7_pass, (7, (some .int, (7, []))))), (yX7_hand, (cX7_hand, (3, (some .int, (7, []))))), (yX7_value, (cX7_value, (3, (some .int, (7, []))))), (yX7_purse, (cX7_purse, (4, (some .int, (7, []))))), (yX7_fact, (cX7_fact, (5, (some .boolean, (7, []))))), (yX7_harm, (cX7_harm, (4, (some .int, (7, []))))), (yX7_holder, (cX7_holder, (1, (some .int, (7, []))))), (yX7_name, (cX7_name, (4, (some .int, (7, []))))), (yX7_claim, (cX7_claim, (2, (some .int, (7, []))))), (yX7_whom, (cX7_whom, (2, (some .int, (7, []))))), (yX7_pays, (cX7_pays, (2, (some .int, (7, []))))), (yX7_bears, (cX7_bears, (2, (some .int, (7, [])))))]
noncomputable def m_inf3 : List m_In := [(yX7_must, (cX7_must, (2, (some .boolean, (7, []))))), (yX7_frees, (cX7_frees, (3, (some .int, (7, []))))), (yX7_question, (cX7_question, (4, (some .int, (7, []))))), (yX7_inCase, (cX7_inCase, (3, (some .int, (7, []))))), (yX7_sure, (cX7_sure, (3, (some .int, (7, []))))), (yX7_cases, (cX7_cases, (2, (some .int, (7, []))))), (yX7_hangs, (cX7_hangs, (4, (some .int, (7, []))))), (yX7_least, (cX7_least, (3, (some .int, (7, []))))), (yX7_find, (cX7_find, (4, (some .int, (7, []))))), (yX7_title, (cX7_title, (1, (some .int, (7, []))))), (yX7_found, (cX7_found, (4, (some .int, (7, []))))), (yX7_put, (cX7_put, (3, (some .int, (7, []))))), (yX7_share, (cX7_share, (4, (some .int, (7, []))))), (yX7_judge, (cX7_judge, (4, (some .int, (7, []))))), (yX7_wrong, (cX7_wrong, (2, (some .int, (7, []))))), (yX7_parting, (cX7_parting, (6, (some .int, (7, []))))), (yX7_beside, (cX7_beside, (3, (some .int, (7, []))))), (yX7_image, (cX7_image, (1, (some .int, (7, []))))), (yX7_restore, (cX7_restore, (1, (some .int, (7, []))))), (yX7_count, (cX7_count, (2, (some .int, (7, []))))), (yX7_need, (cX7_need, (1, (none, (7, []))))), (yX7_needHand, (cX7_needHand, (2, (none, (7, []))))), (yX7_isWithin, (cX7_isWithin, (2, (some .boolean, (7, []))))), (yX7_isLaw, (cX7_isLaw, (2, (some .boolean, (7, []))))), (yX7_lawInForce, (cX7_lawInForce, (1, (some (.object RX4), (7, []))))), (yX7_layOnTape, (cX7_layOnTape, (3, (none, (7, []))))), (yX7_keepingOfCase, (cX7_keepingOfCase, (1, (some .int, (7, []))))), (yX7_harmOfCase, (cX7_harmOfCase, (1, (some .int, (7, []))))), (yX7_nameCase, (cX7_nameCase, (6, (none, (7, []))))), (yX7_allCases, (cX7_allCases, (1, (some .int, (7, []))))), (yX7_reckonCases, (cX7_reckonCases, (2, (none, (7, []))))), (yX7_isBurdened, (cX7_isBurdened, (3, (some .boolean, (7, [])))))]
noncomputable def m_inf4 : List m_In := [(yX7_burdenedCases, (cX7_burdenedCases, (4, (some .int, (7, []))))), (yX7_casesLikeBit, (cX7_casesLikeBit, (5, (some .int, (7, []))))), (yX7_matters, (cX7_matters, (3, (some .boolean, (7, []))))), (yX7_areBorneAlike, (cX7_areBorneAlike, (4, (some .boolean, (7, []))))), (yX8_init, (cX8_init, (2, (none, (8, []))))), (yX8_thrown, (cX8_thrown, (1, (some .int, (8, []))))), (yX8_bad, (cX8_bad, (3, (some .boolean, (8, []))))), (yX8_in, (cX8_in, (3, (some .boolean, (8, []))))), (yX8_less, (cX8_less, (2, (some .int, (8, []))))), (yX8_feed, (cX8_feed, (8, (some .int, (8, []))))), (yX8_byteAt, (cX8_byteAt, (2, (some .int, (8, []))))), (yX8_blanks, (cX8_blanks, (1, (none, (8, []))))), (yX8_wrongAt, (cX8_wrongAt, (3, (none, (8, []))))), (yX8_isDigit, (cX8_isDigit, (1, (some .boolean, (8, []))))), (yX8_number, (cX8_number, (5, (some .int, (8, []))))), (yX8_wordHere, (cX8_wordHere, (3, (some .int, (8, []))))), (yX8_isAnswers, (cX8_isAnswers, (1, (some .boolean, (8, []))))), (yX8_word, (cX8_word, (7, (some .int, (8, []))))), (yX8_isWord, (cX8_isWord, (7, (some .boolean, (8, []))))), (yX8_skipWord, (cX8_skipWord, (1, (none, (8, []))))), (yX8_sign, (cX8_sign, (2, (none, (8, []))))), (yX8_opens, (cX8_opens, (2, (none, (8, []))))), (yX8_nameHere, (cX8_nameHere, (1, (some .int, (8, []))))), (yX8_unit, (cX8_unit, (6, (some .int, (8, []))))), (yX8_product, (cX8_product, (4, (some .int, (8, []))))), (yX8_sum, (cX8_sum, (4, (some .int, (8, []))))), (yX8_test, (cX8_test, (4, (some .boolean, (8, []))))), (yX8_ands, (cX8_ands, (3, (some .boolean, (8, []))))), (yX8_ors, (cX8_ors, (3, (some .boolean, (8, []))))), (yX8_keepingHere, (cX8_keepingHere, (1, (some .int, (8, []))))), (yX8_harmHere, (cX8_harmHere, (1, (some .int, (8, []))))), (yX8_harms, (cX8_harms, (4, (some .boolean, (8, [])))))]
noncomputable def m_inf5 : List m_In := [(yX8_terms, (cX8_terms, (3, (some .boolean, (8, []))))), (yX8_clause, (cX8_clause, (3, (none, (8, []))))), (yX8_mixes, (cX8_mixes, (3, (none, (8, []))))), (yX8_says, (cX8_says, (6, (none, (8, []))))), (yX8_walks, (cX8_walks, (1, (none, (8, []))))), (yX8_law, (cX8_law, (3, (some .int, (8, []))))), (yX8_fault, (cX8_fault, (1, (some .int, (8, []))))), (yX8_force, (cX8_force, (3, (some .int, (8, []))))), (yX8_asks, (cX8_asks, (5, (none, (8, []))))), (yX8_tellsBits, (cX8_tellsBits, (3, (none, (8, []))))), (yX8_words, (cX8_words, (7, (some .int, (8, []))))), (yX8_lets, (cX8_lets, (5, (some .boolean, (8, []))))), (yX8_pass, (cX8_pass, (7, (some .int, (8, []))))), (yX8_isHand, (cX8_isHand, (2, (some .boolean, (8, []))))), (yX8_hand, (cX8_hand, (3, (some .int, (8, []))))), (yX8_value, (cX8_value, (3, (some .int, (8, []))))), (yX8_purse, (cX8_purse, (4, (some .int, (8, []))))), (yX8_fact, (cX8_fact, (5, (some .boolean, (8, []))))), (yX8_harm, (cX8_harm, (4, (some .int, (8, []))))), (yX8_findHolder, (cX8_findHolder, (2, (none, (8, []))))), (yX8_hasPassed, (cX8_hasPassed, (2, (some .boolean, (8, []))))), (yX8_tellsNames, (cX8_tellsNames, (4, (none, (8, []))))), (yX8_ends, (cX8_ends, (4, (none, (8, []))))), (yX8_holder, (cX8_holder, (1, (some .int, (8, []))))), (yX8_isWithin, (cX8_isWithin, (2, (some .boolean, (8, []))))), (yX8_name, (cX8_name, (3, (some .int, (8, []))))), (yX8_claim, (cX8_claim, (2, (some .int, (8, []))))), (yX8_whom, (cX8_whom, (2, (some .int, (8, []))))), (yX8_pays, (cX8_pays, (2, (some .int, (8, []))))), (yX8_bears, (cX8_bears, (2, (some .int, (8, []))))), (yX8_must, (cX8_must, (2, (some .boolean, (8, []))))), (yX8_frees, (cX8_frees, (3, (some .int, (8, [])))))]
noncomputable def m_inf6 : List m_In := [(yX8_question, (cX8_question, (4, (some .int, (8, []))))), (yX8_goesInto, (cX8_goesInto, (5, (none, (8, []))))), (yX8_comesBack, (cX8_comesBack, (3, (none, (8, []))))), (yX8_caseMany, (cX8_caseMany, (1, (some .int, (8, []))))), (yX8_findCases, (cX8_findCases, (3, (none, (8, []))))), (yX8_inCase, (cX8_inCase, (3, (some .int, (8, []))))), (yX8_casesOf, (cX8_casesOf, (4, (some .int, (8, []))))), (yX8_sure, (cX8_sure, (3, (some .int, (8, []))))), (yX8_cases, (cX8_cases, (2, (some .int, (8, []))))), (yX8_hangs, (cX8_hangs, (7, (some .int, (8, []))))), (yX8_ones, (cX8_ones, (3, (some .int, (8, []))))), (yX8_areAlike, (cX8_areAlike, (4, (some .boolean, (8, []))))), (yX8_settles, (cX8_settles, (3, (some .boolean, (8, []))))), (yX8_least, (cX8_least, (3, (some .int, (8, []))))), (yX8_find, (cX8_find, (8, (some .int, (8, []))))), (yX8_titleNow, (cX8_titleNow, (4, (some .int, (8, []))))), (yX8_title, (cX8_title, (1, (some .int, (8, []))))), (yX8_found, (cX8_found, (3, (some .int, (8, []))))), (yX8_put, (cX8_put, (3, (some .int, (8, []))))), (yX8_share, (cX8_share, (8, (some .int, (8, []))))), (yX8_judge, (cX8_judge, (4, (some .int, (8, []))))), (yX8_wrong, (cX8_wrong, (2, (some .int, (8, []))))), (yX8_claimIn, (cX8_claimIn, (3, (some .int, (8, []))))), (yX8_parting, (cX8_parting, (4, (some .int, (8, []))))), (yX8_beside, (cX8_beside, (3, (some .int, (8, []))))), (yX8_moves, (cX8_moves, (5, (some .int, (8, []))))), (yX8_movesAll, (cX8_movesAll, (5, (none, (8, []))))), (yX8_image, (cX8_image, (1, (some .int, (8, []))))), (yX8_restore, (cX8_restore, (1, (some .int, (8, []))))), (yX8_count, (cX8_count, (2, (some .int, (8, []))))), (yL_law, (cL_law, (4, (some .int, (9, [(0, 9, 12, 13)]))))), (yL_force, (cL_force, (4, (some .int, (9, [(0, 9, 12, 13)])))))]
noncomputable def m_inf7 : List m_In := [(yL_words, (cL_words, (9, (some .int, (9, [(0, 18, 21, 13)]))))), (yL_lets, (cL_lets, (6, (some .int, (9, [(0, 19, 22, 13)]))))), (yL_pass, (cL_pass, (8, (some .int, (9, [(0, 16, 19, 13)]))))), (yL_hand, (cL_hand, (5, (some .int, (9, [(0, 10, 13, 34), (0, 10, 17, 13)]))))), (yL_value, (cL_value, (4, (some .int, (9, [(0, 9, 12, 13)]))))), (yL_purse, (cL_purse, (5, (some .int, (9, [(0, 10, 13, 34), (0, 10, 17, 13)]))))), (yL_fact, (cL_fact, (6, (some .int, (9, [(0, 19, 22, 34), (0, 19, 26, 13)]))))), (yL_harm, (cL_harm, (5, (some .int, (9, [(0, 10, 13, 13)]))))), (yL_name, (cL_name, (5, (some .int, (9, [(0, 10, 13, 34), (0, 10, 17, 13)]))))), (yL_claim, (cL_claim, (4, (some .int, (9, [(0, 9, 12, 34)]))))), (yL_whom, (cL_whom, (4, (some .int, (9, [(0, 9, 12, 34)]))))), (yL_pays, (cL_pays, (4, (some .int, (9, [(0, 9, 12, 34)]))))), (yL_bears, (cL_bears, (4, (some .int, (9, [(0, 9, 12, 34)]))))), (yL_must, (cL_must, (4, (some .int, (9, [(0, 16, 19, 34)]))))), (yL_frees, (cL_frees, (4, (some .int, (9, [(0, 9, 12, 34)]))))), (yL_question, (cL_question, (6, (some .int, (9, [(0, 12, 15, 34), (0, 12, 19, 13)]))))), (yL_inCase, (cL_inCase, (5, (some .int, (9, [(0, 10, 13, 34), (0, 10, 17, 13)]))))), (yL_sure, (cL_sure, (4, (some .int, (9, [(0, 9, 12, 34)]))))), (yL_cases, (cL_cases, (4, (some .int, (9, [(0, 9, 12, 34)]))))), (yL_hangs, (cL_hangs, (4, (some .int, (9, [(0, 9, 12, 34)]))))), (yL_find, (cL_find, (5, (some .int, (9, [(0, 10, 13, 34)]))))), (yL_found, (cL_found, (5, (some .int, (9, [(0, 10, 13, 34), (0, 10, 17, 13)]))))), (yL_put, (cL_put, (5, (some .int, (9, [(0, 10, 13, 13)]))))), (yL_share, (cL_share, (5, (some .int, (9, [(0, 10, 13, 13)]))))), (yL_judge, (cL_judge, (5, (some .int, (9, [(0, 10, 13, 34), (0, 10, 17, 13)]))))), (yL_parting, (cL_parting, (5, (some .int, (9, [(0, 10, 13, 13)]))))), (yL_beside, (cL_beside, (5, (some .int, (9, [(0, 10, 13, 34), (0, 10, 17, 13)]))))), (yL_law_, (cL_law_, (7, (some .boolean, (9, [])))))]
noncomputable def m_infs : List m_In := m_inf0 ++ (m_inf1 ++ (m_inf2 ++ (m_inf3 ++ (m_inf4 ++ (m_inf5 ++ (m_inf6 ++ (m_inf7)))))))
noncomputable def m_inf (m : Nat) : m_In := m_infs.getD m (yX0_init, (cX0_init, (0, (none, (0, [])))))
noncomputable abbrev m_y (m : Nat) : MethodName := (m_inf m).1
noncomputable abbrev m_cd (m : Nat) : ByteArray := (m_inf m).2.1
noncomputable abbrev m_mx (m : Nat) : Nat := (m_inf m).2.2.1
noncomputable abbrev m_rt (m : Nat) : Option FieldType := (m_inf m).2.2.2.1
noncomputable abbrev m_ow (m : Nat) : Nat := (m_inf m).2.2.2.2.1
noncomputable abbrev m_hh (m : Nat) : List (Nat × Nat × Nat × Nat) := (m_inf m).2.2.2.2.2
noncomputable def m_vc (c : Nat) : vw_C := vwCl.getD c (RX0, TX0, 9)
def m_flp : List (Nat × (Nat × (Nat × (Nat × Nat)))) := [(1204, (0, (11, (0, 0)))), (1207, (0, (17, (0, 1)))), (1209, (0, (21, (0, 2)))), (1212, (0, (24, (0, 3)))), (1217, (0, (27, (0, 5)))), (1219, (0, (32, (0, 6)))), (1223, (0, (39, (0, 8)))), (1221, (0, (49, (0, 7)))), (1215, (0, (58, (0, 4)))), (1151, (0, (61, (3, 1)))), (1160, (0, (64, (3, 4)))), (1154, (0, (71, (3, 2)))), (1148, (0, (78, (3, 0)))), (1157, (0, (81, (3, 3)))), (1191, (0, (89, (6, 0)))), (1194, (0, (92, (6, 1)))), (1196, (0, (95, (6, 2)))), (2011, (1, (9, (1, 0)))), (2013, (1, (15, (1, 1)))), (2015, (1, (18, (1, 2)))), (2017, (1, (21, (1, 3)))), (2019, (1, (24, (1, 4)))), (2021, (1, (28, (1, 5)))), (2022, (1, (31, (1, 6)))), (2023, (1, (43, (1, 7)))), (1210, (1, (55, (0, 2)))), (1205, (1, (62, (0, 0)))), (1147, (1, (72, (3, 0)))), (1213, (1, (77, (0, 3)))), (1163, (1, (96, (3, 5)))), (1128, (2, (9, (2, 1)))), (1129, (2, (15, (2, 2)))), (1126, (2, (18, (2, 0)))), (1146, (3, (14, (3, 0)))), (1150, (3, (18, (3, 1)))), (1153, (3, (21, (3, 2)))), (1156, (3, (24, (3, 3)))), (1159, (3, (27, (3, 4)))), (1162, (3, (30, (3, 5)))), (1165, (3, (33, (3, 6)))), (1167, (3, (36, (3, 7)))), (1036, (4, (9, (4, 0)))), (1040, (4, (15, (4, 2)))), (1041, (4, (19, (4, 3)))), (1042, (4, (22, (4, 4)))), (1043, (4, (25, (4, 5)))), (1044, (4, (28, (4, 6)))), (1045, (4, (31, (4, 7)))), (1047, (4, (34, (4, 9)))), (1039, (4, (37, (4, 1)))), (1046, (4, (40, (4, 8)))), (1078, (5, (9, (5, 0)))), (1081, (5, (15, (5, 2)))), (1083, (5, (22, (5, 4)))), (1082, (5, (32, (5, 3)))), (1080, (5, (38, (5, 1)))), (1088, (5, (41, (5, 9)))), (1086, (5, (44, (5, 7)))), (1084, (5, (50, (5, 5)))), (1037, (5, (110, (4, 0)))), (1087, (5, (129, (5, 8)))), (1085, (5, (175, (5, 6)))), (1190, (6, (7, (6, 0)))), (1193, (6, (13, (6, 1)))), (1195, (6, (16, (6, 2)))), (2042, (7, (9, (7, 0)))), (2044, (7, (15, (7, 2)))), (2046, (7, (20, (7, 4)))), (2047, (7, (27, (7, 5)))), (2048, (7, (31, (7, 6)))), (2049, (7, (35, (7, 7)))), (2050, (7, (41, (7, 8)))), (2051, (7, (45, (7, 9)))), (2052, (7, (48, (7, 10)))), (2054, (7, (55, (7, 12)))), (2055, (7, (59, (7, 13)))), (2043, (7, (62, (7, 1)))), (2045, (7, (77, (7, 3)))), (1079, (7, (84, (5, 0)))), (1218, (7, (91, (0, 5)))), (1208, (7, (119, (0, 1)))), (1206, (7, (122, (0, 0)))), (1152, (7, (126, (3, 1)))), (1149, (7, (134, (3, 0)))), (1155, (7, (137, (3, 2)))), (1158, (7, (140, (3, 3)))), (1161, (7, (143, (3, 4)))), (1211, (7, (152, (0, 2)))), (1164, (7, (155, (3, 5)))), (1214, (7, (165, (0, 3)))), (1216, (7, (168, (0, 4)))), (2012, (7, (187, (1, 0)))), (2014, (7, (190, (1, 1)))), (2016, (7, (193, (1, 2)))), (2018, (7, (196, (1, 3)))), (2020, (7, (199, (1, 4)))), (1222, (7, (224, (0, 7)))), (1220, (7, (241, (0, 6)))), (1192, (7, (245, (6, 0)))), (1224, (7, (260, (0, 8)))), (1038, (7, (272, (4, 0)))), (1166, (7, (281, (3, 6)))), (2053, (7, (288, (7, 11)))), (1127, (7, (291, (2, 0)))), (5119, (8, (9, (8, 3)))), (5125, (8, (13, (8, 9)))), (5126, (8, (19, (8, 10)))), (5127, (8, (22, (8, 11)))), (5129, (8, (25, (8, 13)))), (5130, (8, (28, (8, 14)))), (5142, (8, (31, (8, 26)))), (5143, (8, (34, (8, 27)))), (5144, (8, (37, (8, 28)))), (5146, (8, (40, (8, 30)))), (5147, (8, (43, (8, 31)))), (5148, (8, (46, (8, 32)))), (5149, (8, (51, (8, 33)))), (5151, (8, (54, (8, 35)))), (5152, (8, (57, (8, 36)))), (5153, (8, (60, (8, 37)))), (5154, (8, (63, (8, 38)))), (5155, (8, (66, (8, 39)))), (5156, (8, (69, (8, 40)))), (5157, (8, (73, (8, 41)))), (5158, (8, (76, (8, 42)))), (5160, (8, (79, (8, 44)))), (5161, (8, (82, (8, 45)))), (5164, (8, (85, (8, 48)))), (5167, (8, (88, (8, 51)))), (5169, (8, (91, (8, 53)))), (5116, (8, (94, (8, 0)))), (5117, (8, (97, (8, 1)))), (5118, (8, (100, (8, 2)))), (5124, (8, (103, (8, 8)))), (5120, (8, (106, (8, 4)))), (5122, (8, (113, (8, 6)))), (5123, (8, (116, (8, 7)))), (5121, (8, (147, (8, 5)))), (5132, (8, (192, (8, 16)))), (5133, (8, (195, (8, 17)))), (5134, (8, (201, (8, 18)))), (5131, (8, (207, (8, 15)))), (5136, (8, (214, (8, 20)))), (5138, (8, (220, (8, 22)))), (5137, (8, (224, (8, 21)))), (5139, (8, (227, (8, 23)))), (5135, (8, (230, (8, 19)))), (5140, (8, (236, (8, 24)))), (5141, (8, (239, (8, 25)))), (5128, (8, (249, (8, 12)))), (5145, (8, (268, (8, 29)))), (5150, (8, (271, (8, 34)))), (5159, (8, (289, (8, 43)))), (5162, (8, (292, (8, 46)))), (5163, (8, (295, (8, 47)))), (5165, (8, (326, (8, 49)))), (5166, (8, (329, (8, 50)))), (5168, (8, (339, (8, 52))))]
def m_mlp : List (Nat × (Nat × (Nat × Nat))) := [(1138, (0, (43, 22))), (2117, (0, (45, 24))), (2121, (0, (52, 76))), (2125, (0, (55, 17))), (2177, (0, (67, 26))), (2181, (0, (74, 3))), (2185, (0, (84, 37))), (2140, (0, (98, 8))), (2147, (0, (105, 27))), (2164, (1, (34, 11))), (2168, (1, (37, 2))), (2169, (1, (47, 12))), (2219, (1, (51, 13))), (2224, (1, (58, 14))), (2173, (1, (66, 4))), (2196, (1, (80, 34))), (2213, (1, (84, 26))), (2214, (1, (88, 35))), (2218, (1, (92, 3))), (5072, (2, (28, 19))), (5073, (2, (32, 21))), (1142, (3, (9, 23))), (3205, (4, (43, 30))), (2189, (4, (47, 39))), (2193, (4, (51, 40))), (2200, (4, (55, 41))), (5097, (4, (68, 34))), (5098, (4, (72, 35))), (2204, (4, (75, 42))), (3108, (5, (35, 29))), (3112, (5, (47, 68))), (3122, (5, (53, 45))), (4007, (5, (57, 64))), (3127, (5, (63, 72))), (3184, (5, (69, 71))), (3188, (5, (73, 67))), (3192, (5, (76, 30))), (3196, (5, (79, 46))), (3207, (5, (84, 74))), (3201, (5, (87, 31))), (3210, (5, (91, 57))), (4012, (5, (94, 50))), (4024, (5, (97, 48))), (4034, (5, (102, 65))), (4038, (5, (105, 52))), (4028, (5, (113, 49))), (4020, (5, (118, 32))), (4016, (5, (122, 51))), (3234, (5, (125, 66))), (4042, (5, (132, 53))), (3238, (5, (137, 33))), (4046, (5, (140, 54))), (4051, (5, (147, 55))), (3222, (5, (150, 62))), (3226, (5, (153, 63))), (4055, (5, (156, 56))), (3214, (5, (159, 58))), (3218, (5, (162, 59))), (3230, (5, (165, 60))), (4003, (5, (170, 61))), (3116, (5, (178, 69))), (3119, (5, (181, 70))), (3179, (5, (193, 73))), (1112, (7, (40, 0))), (2089, (7, (65, 121))), (2159, (7, (69, 118))), (3033, (7, (73, 116))), (3103, (7, (80, 44))), (2155, (7, (87, 119))), (4075, (7, (94, 124))), (4079, (7, (98, 122))), (4082, (7, (102, 35))), (4083, (7, (106, 123))), (4086, (7, (109, 34))), (4094, (7, (113, 38))), (4098, (7, (116, 37))), (4106, (7, (131, 23))), (4115, (7, (146, 117))), (4135, (7, (149, 25))), (4160, (7, (158, 26))), (4161, (7, (161, 27))), (2101, (7, (171, 2))), (2151, (7, (175, 120))), (4176, (7, (179, 4))), (2160, (7, (183, 10))), (2113, (7, (203, 1))), (4226, (7, (207, 5))), (2132, (7, (211, 125))), (2136, (7, (214, 7))), (2109, (7, (218, 126))), (5004, (7, (221, 128))), (5026, (7, (227, 129))), (2229, (7, (231, 130))), (5038, (7, (250, 8))), (5039, (7, (254, 6))), (3001, (7, (257, 15))), (5057, (7, (264, 18))), (3021, (7, (269, 19))), (5068, (7, (275, 20))), (5078, (7, (278, 21))), (5093, (7, (284, 36))), (5008, (7, (307, 127))), (2233, (7, (310, 131))), (6066, (8, (109, 138))), (6062, (8, (119, 139))), (6149, (8, (122, 141))), (6093, (8, (126, 140))), (6051, (8, (131, 135))), (6086, (8, (135, 144))), (6082, (8, (139, 143))), (6090, (8, (143, 145))), (6078, (8, (150, 146))), (6152, (8, (154, 142))), (6157, (8, (158, 150))), (6097, (8, (161, 147))), (6129, (8, (164, 149))), (6137, (8, (168, 153))), (6133, (8, (171, 148))), (6145, (8, (174, 151))), (6141, (8, (177, 152))), (6125, (8, (180, 154))), (6117, (8, (183, 156))), (6121, (8, (186, 155))), (6113, (8, (189, 158))), (6074, (8, (198, 157))), (6101, (8, (204, 162))), (6105, (8, (210, 163))), (6109, (8, (217, 159))), (6161, (8, (233, 160))), (6070, (8, (242, 161))), (6054, (8, (245, 134))), (6058, (8, (252, 164))), (6185, (8, (255, 136))), (6177, (8, (258, 169))), (6181, (8, (261, 168))), (6200, (8, (265, 173))), (7000, (8, (274, 180))), (6224, (8, (277, 179))), (6236, (8, (280, 181))), (6232, (8, (283, 182))), (7004, (8, (286, 184))), (7040, (8, (298, 195))), (7048, (8, (301, 193))), (7052, (8, (304, 194))), (7044, (8, (307, 196))), (7060, (8, (310, 198))), (7083, (8, (313, 203))), (7076, (8, (317, 202))), (7079, (8, (320, 204))), (7095, (8, (323, 207))), (7123, (8, (332, 214))), (7139, (8, (335, 217))), (7135, (8, (342, 218))), (3029, (9, (7, 79))), (4064, (9, (15, 81))), (4071, (9, (18, 82))), (4090, (9, (22, 83))), (4102, (9, (26, 84))), (4111, (9, (30, 85))), (4142, (9, (36, 86))), (4149, (9, (39, 87))), (4156, (9, (42, 88))), (4165, (9, (46, 89))), (4172, (9, (49, 91))), (4180, (9, (52, 92))), (4187, (9, (55, 93))), (4194, (9, (58, 94))), (4201, (9, (61, 95))), (4208, (9, (64, 96))), (4215, (9, (68, 97))), (4222, (9, (71, 98))), (4233, (9, (75, 99))), (5000, (9, (78, 100))), (5015, (9, (81, 101))), (5022, (9, (84, 102))), (5033, (9, (87, 104))), (5046, (9, (91, 106))), (5053, (9, (94, 107))), (5064, (9, (97, 108))), (5082, (9, (100, 109))), (5089, (9, (103, 111))), (5102, (9, (106, 112))), (1023, (9, (109, 77))), (5108, (9, (112, 132))), (2085, (9, (113, 78))), (6043, (9, (117, 137))), (3025, (9, (118, 222))), (6047, (9, (123, 165))), (6039, (9, (124, 133))), (2093, (9, (128, 80))), (6165, (9, (131, 166))), (4061, (9, (132, 223))), (6169, (9, (134, 167))), (4068, (9, (135, 224))), (6173, (9, (138, 170))), (4087, (9, (139, 225))), (6188, (9, (142, 171))), (4099, (9, (143, 226))), (6192, (9, (146, 172))), (4107, (9, (147, 227))), (6196, (9, (150, 174))), (4139, (9, (151, 228))), (6204, (9, (153, 175))), (4146, (9, (154, 229))), (6208, (9, (156, 176))), (4153, (9, (157, 230))), (6212, (9, (160, 177))), (4162, (9, (161, 231))), (6216, (9, (163, 178))), (2097, (9, (164, 90))), (6220, (9, (167, 183))), (4169, (9, (168, 232))), (6228, (9, (170, 185))), (4177, (9, (171, 233))), (7008, (9, (173, 186))), (4184, (9, (174, 234))), (7012, (9, (176, 187))), (4191, (9, (177, 235))), (7016, (9, (179, 188))), (4198, (9, (180, 236))), (7020, (9, (182, 189))), (4205, (9, (183, 237))), (7024, (9, (185, 190))), (4212, (9, (186, 238))), (7028, (9, (188, 191))), (4219, (9, (189, 239))), (7032, (9, (191, 192))), (4230, (9, (192, 240))), (7036, (9, (194, 197))), (4237, (9, (195, 241))), (7056, (9, (197, 199))), (5012, (9, (198, 242))), (7064, (9, (200, 200))), (5019, (9, (201, 243))), (7068, (9, (203, 201))), (2105, (9, (204, 103))), (7072, (9, (207, 205))), (5030, (9, (208, 244))), (7087, (9, (211, 206))), (2237, (9, (212, 105))), (7091, (9, (215, 208))), (5043, (9, (216, 245))), (7099, (9, (218, 209))), (5050, (9, (219, 246))), (7103, (9, (221, 210))), (5061, (9, (222, 247))), (7107, (9, (224, 211))), (5079, (9, (225, 248))), (7111, (9, (227, 212))), (3005, (9, (228, 110))), (7115, (9, (231, 213))), (5086, (9, (232, 249))), (7119, (9, (234, 215))), (5099, (9, (235, 250))), (7127, (9, (237, 216))), (3009, (9, (238, 113))), (7131, (9, (241, 219))), (3013, (9, (242, 114))), (7143, (9, (245, 220))), (3017, (9, (246, 115))), (7147, (9, (249, 221)))]
def m_fl : List (Nat × (Nat × (Nat × Nat))) := m_flp.map fun q => q.2
def m_ml : List (Nat × (Nat × Nat)) := m_mlp.map fun q => q.2
def m_nl : List (Nat × (Nat × Nat)) := [(0, (38, 16)), (0, (44, 75)), (0, (102, 118)), (5, (21, 28)), (7, (19, 28)), (7, (26, 43)), (7, (54, 9))]
def m_clp : List (Nat × (Nat × (Nat × Nat))) := [(1120, (0, (36, 2))), (1116, (0, (9, 3))), (1118, (0, (30, 6))), (1076, (5, (19, 4))), (1029, (7, (13, 4))), (1070, (7, (24, 5))), (1110, (7, (38, 0))), (2005, (7, (52, 1))), (1021, (9, (8, 7))), (5106, (9, (110, 8)))]
def m_cl : List (Nat × (Nat × Nat)) := m_clp.map fun q => q.2
noncomputable def m_cw (m : Nat) : Cond := match m_hh m with
  | [] => .code (m_y m) (m_cd m) (m_mx m) (m_rt m)
  | hh => .codeWith (m_y m) (m_cd m) (m_mx m) (m_rt m) hh
def m_inp : List (Nat × Nat) := [(1113, 0), (2114, 1), (2102, 2), (2182, 3), (2174, 4), (4227, 5), (5040, 6), (2137, 7), (2141, 8), (2008, 9), (2161, 10), (2166, 11), (2171, 12), (2221, 13), (2226, 14), (3002, 15), (1123, 16), (2126, 17), (5058, 18), (3022, 19), (5069, 20), (5074, 21), (1139, 22), (1143, 23), (2118, 24), (4136, 25), (2178, 26), (2148, 27), (1033, 28), (3109, 29), (3193, 30), (3202, 31), (4021, 32), (3239, 33), (2197, 34), (2215, 35), (5094, 36), (2186, 37), (4095, 38), (2191, 39), (2202, 41), (1073, 43), (3104, 44), (3124, 45), (3198, 46), (4057, 47), (4026, 48), (4030, 49), (4014, 50), (4018, 51), (4040, 52), (4044, 53), (4048, 54), (4053, 55), (4057, 56), (3212, 57), (3216, 58), (3220, 59), (3232, 60), (4005, 61), (3224, 62), (3228, 63), (4009, 64), (4036, 65), (3236, 66), (3190, 67), (3114, 68), (3186, 71), (3129, 72), (3181, 73), (1187, 75), (2122, 76), (1024, 77), (2086, 78), (3030, 79), (2094, 80), (4065, 81), (4072, 82), (4091, 83), (4103, 84), (4112, 85), (4143, 86), (4150, 87), (4157, 88), (4166, 89), (2098, 90), (4173, 91), (4181, 92), (4188, 93), (4195, 94), (4202, 95), (4209, 96), (4216, 97), (4223, 98), (4234, 99), (5001, 100), (5016, 101), (5023, 102), (2106, 103), (5034, 104), (2238, 105), (5047, 106), (5054, 107), (5065, 108), (5083, 109), (3006, 110), (5090, 111), (5103, 112), (3010, 113), (3014, 114), (3018, 115), (4117, 117), (2157, 119), (2153, 120), (2091, 121), (4077, 124), (2134, 125), (2111, 126), (5010, 127), (5006, 128), (5028, 129), (2231, 130), (2235, 131), (5109, 132), (6040, 133), (6056, 134), (6044, 137), (6068, 138), (6064, 139), (6095, 140), (6154, 142), (6084, 143), (6088, 144), (6080, 146), (6099, 147), (6135, 148), (6131, 149), (6159, 150), (6147, 151), (6143, 152), (6139, 153), (6127, 154), (6123, 155), (6119, 156), (6076, 157), (6115, 158), (6111, 159), (6163, 160), (6072, 161), (6103, 162), (6107, 163), (6060, 164), (6048, 165), (6166, 166), (6170, 167), (6183, 168), (6179, 169), (6174, 170), (6189, 171), (6193, 172), (6202, 173), (6197, 174), (6205, 175), (6209, 176), (6213, 177), (6217, 178), (6226, 179), (7002, 180), (6238, 181), (6234, 182), (6221, 183), (7006, 184), (6229, 185), (7009, 186), (7013, 187), (7017, 188), (7021, 189), (7025, 190), (7029, 191), (7033, 192), (7050, 193), (7054, 194), (7042, 195), (7046, 196), (7037, 197), (7062, 198), (7057, 199), (7065, 200), (7069, 201), (7085, 203), (7081, 204), (7073, 205), (7088, 206), (7097, 207), (7092, 208), (7100, 209), (7104, 210), (7108, 211), (7112, 212), (7116, 213), (7125, 214), (7120, 215), (7128, 216), (7141, 217), (7137, 218), (7132, 219), (7144, 220), (7148, 221)]
def m_stp : List (Nat × Nat) := [(2194, 40), (2205, 42), (3117, 69), (3120, 70), (3208, 74), (3034, 116), (2145, 118), (4080, 122), (4084, 123), (6052, 135), (6186, 136), (6150, 141), (6091, 145), (7077, 202), (3026, 222), (4062, 223), (4069, 224), (4088, 225), (4100, 226), (4108, 227), (4140, 228), (4147, 229), (4154, 230), (4163, 231), (4170, 232), (4178, 233), (4185, 234), (4192, 235), (4199, 236), (4206, 237), (4213, 238), (4220, 239), (4231, 240), (4238, 241), (5013, 242), (5020, 243), (5031, 244), (5044, 245), (5051, 246), (5062, 247), (5080, 248), (5087, 249), (5100, 250)]
def m_sep : List (Nat × Nat) := [(2115, 1), (2103, 2), (2183, 3), (2175, 4), (4228, 5), (5041, 6), (2138, 7), (2142, 8), (2162, 10), (5, 11), (6, 12), (9, 13), (10, 14), (3003, 15), (2127, 17), (5059, 18), (3023, 19), (5070, 20), (5075, 21), (1144, 23), (2119, 24), (4137, 25), (2179, 26), (2149, 27), (3110, 29), (3194, 30), (3203, 31), (4022, 32), (4000, 33), (2198, 34), (2216, 35), (5095, 36), (2187, 37), (4096, 38), (7, 39), (8, 41), (3105, 44), (15, 45), (20, 46), (39, 47), (32, 48), (33, 49), (30, 50), (31, 51), (35, 52), (36, 53), (37, 54), (38, 55), (39, 56), (21, 57), (22, 58), (23, 59), (26, 60), (28, 61), (24, 62), (25, 63), (29, 64), (34, 65), (27, 66), (19, 67), (14, 68), (18, 71), (16, 72), (17, 73), (2123, 76), (2087, 78), (3031, 79), (2095, 80), (4066, 81), (4073, 82), (4092, 83), (4104, 84), (4113, 85), (4144, 86), (4151, 87), (4158, 88), (4167, 89), (2099, 90), (4174, 91), (4182, 92), (4189, 93), (4196, 94), (4203, 95), (4210, 96), (4217, 97), (4224, 98), (4235, 99), (5002, 100), (5017, 101), (5024, 102), (2107, 103), (5035, 104), (2239, 105), (5048, 106), (5055, 107), (5066, 108), (5084, 109), (3007, 110), (5091, 111), (5104, 112), (3011, 113), (3015, 114), (3019, 115), (41, 117), (4, 119), (3, 120), (0, 121), (40, 124), (2, 125), (1, 126), (43, 127), (42, 128), (44, 129), (11, 130), (12, 131), (6041, 133), (45, 134), (6045, 137), (48, 138), (47, 139), (54, 140), (68, 142), (52, 143), (53, 144), (51, 146), (55, 147), (64, 148), (63, 149), (69, 150), (67, 151), (66, 152), (65, 153), (62, 154), (61, 155), (60, 156), (50, 157), (59, 158), (58, 159), (70, 160), (49, 161), (56, 162), (57, 163), (46, 164), (6049, 165), (6167, 166), (6171, 167), (72, 168), (71, 169), (6175, 170), (6190, 171), (6194, 172), (73, 173), (6198, 174), (6206, 175), (6210, 176), (6214, 177), (6218, 178), (74, 179), (77, 180), (76, 181), (75, 182), (6222, 183), (78, 184), (6230, 185), (7010, 186), (7014, 187), (7018, 188), (7022, 189), (7026, 190), (7030, 191), (7034, 192), (81, 193), (82, 194), (79, 195), (80, 196), (7038, 197), (83, 198), (7058, 199), (7066, 200), (7070, 201), (85, 203), (84, 204), (7074, 205), (7089, 206), (86, 207), (7093, 208), (7101, 209), (7105, 210), (7109, 211), (7113, 212), (7117, 213), (87, 214), (7121, 215), (7129, 216), (89, 217), (88, 218), (7133, 219), (7145, 220), (7149, 221)]
def m_itp : List (Nat × Nat) := [(1004, 0), (1008, 1), (1005, 2), (1006, 3), (1002, 4), (1003, 5), (1007, 6), (1001, 7), (1009, 8), (1000, 9)]
def m_inl : List Nat := m_inp.map fun q => q.2
def m_stl : List Nat := m_stp.map fun q => q.2
def m_sel : List Nat := m_sep.map fun q => q.2
def m_isp : List (Nat × Nat) := [(1111, 0), (2006, 1), (1121, 2), (1137, 3), (1031, 4), (1071, 5), (1185, 6), (1022, 7), (5107, 8)]
def m_jlp : List (Nat × (Nat × (Nat × Nat))) := [(1115, (0, (3, 0))), (2010, (1, (3, 0))), (2223, (1, (99, 1))), (1125, (2, (3, 0))), (2129, (2, (22, 3))), (5077, (2, (36, 1))), (1141, (3, (3, 0))), (1035, (4, (3, 0))), (2207, (4, (59, 1))), (2210, (4, (65, 2))), (1075, (5, (3, 0))), (3107, (5, (26, 1))), (3131, (5, (184, 4))), (3141, (5, (189, 5))), (1189, (6, (1, 0))), (1026, (7, (3, 0))), (2228, (7, (301, 3))), (5111, (8, (1, 0)))]
def m_jl : List (Nat × (Nat × Nat)) := m_jlp.map fun q => q.2
def m_alp : List (Nat × (Nat × (Nat × Nat))) := [(1116, (0, (9, 6))), (1118, (0, (30, 7))), (1029, (7, (13, 5))), (1110, (7, (38, 8))), (5112, (8, (17, 3))), (5114, (8, (49, 4)))]
def m_al : List (Nat × (Nat × Nat)) := m_alp.map fun q => q.2
def m_klp : List (Nat × (Nat × (Nat × Int32))) := [(6156, (8, (130, 100000)))]
def m_kl : List (Nat × (Nat × Int32)) := m_klp.map fun q => q.2
def m_sl : List (Nat × (Nat × Nat)) := [(5, (61, 0)), (5, (67, 1)), (5, (82, 3)), (5, (100, 5)), (5, (108, 2)), (5, (116, 4)), (5, (135, 6)), (5, (143, 7)), (5, (145, 8)), (5, (168, 9)), (5, (173, 10))]
def m_tl : List (Nat × (Nat × (Nat × (Nat × Nat)))) := [(7, (234, (236, (238, 1)))), (7, (294, (296, (298, 0)))), (7, (234, (299, (238, 1))))]
/-- the word w lies at place k, and is a good one -/
noncomputable def m_tb (j : Nat) : List Cond := match j with
  | 0 => k2_sels lw_privs
  | 1 => tables_1_1
  | 2 => tables_1_2
  | 3 => tables_1_3
  | 4 => tables_1_4
  | 5 => tables_1_5
  | 6 => tables_1_6
  | 7 => tables_1_7
  | _ => []
theorem m_tb_in {j : Nat} {w : Cond} (h : w ∈ m_tb j) : w ∈ lw_tbl := by
  have e : lw_tbl = k2_sels lw_privs ++ (tables_1_1 ++ (tables_1_2 ++ (tables_1_3 ++ (tables_1_4 ++ (tables_1_5 ++ (tables_1_6 ++ tables_1_7)))))) := rfl
  rw [e]
  simp only [List.mem_append]
  match j, h with
  | 0, h => exact Or.inl h
  | 1, h => exact Or.inr (Or.inl h)
  | 2, h => exact Or.inr (Or.inr (Or.inl h))
  | 3, h => exact Or.inr (Or.inr (Or.inr (Or.inl h)))
  | 4, h => exact Or.inr (Or.inr (Or.inr (Or.inr (Or.inl h))))
  | 5, h => exact Or.inr (Or.inr (Or.inr (Or.inr (Or.inr (Or.inl h)))))
  | 6, h => exact Or.inr (Or.inr (Or.inr (Or.inr (Or.inr (Or.inr (Or.inl h))))))
  | 7, h => exact Or.inr (Or.inr (Or.inr (Or.inr (Or.inr (Or.inr (Or.inr h))))))
  | n + 8, h => exact absurd h List.not_mem_nil
noncomputable def m_pl (k : Nat) (w : Cond) : Bool := decide ((m_tb (k / 1000))[k % 1000]? = some w) && goodWord w
theorem m_pl_in {k : Nat} {w : Cond} (h : m_pl k w = true) : w ∈ m_ws := by
  simp only [m_pl, Bool.and_eq_true, decide_eq_true_eq] at h
  exact List.mem_filter.mpr ⟨m_tb_in (List.mem_of_getElem? h.1), h.2⟩
theorem m_pl_all {α : Type} {l : List (Nat × α)} {f : α → Cond} (h : (l.all fun q => m_pl q.1 (f q.2)) = true) : ∀ q ∈ l.map (fun q => q.2), f q ∈ m_ws := by
  intro q hq
  obtain ⟨x, hx, rfl⟩ := List.mem_map.mp hq
  exact m_pl_in (List.all_eq_true.mp h x hx)
noncomputable def w_fl (q : Nat × (Nat × (Nat × Nat))) : Cond := .fieldLink (m_cn q.1) q.2.1 ((m_vc q.2.2.1).2.1 q.2.2.2).1 ((m_vc q.2.2.1).2.1 q.2.2.2).2.1 ((m_vc q.2.2.1).2.1 q.2.2.2).2.2.1
noncomputable def w_ml (q : Nat × (Nat × Nat)) : Cond := .methodLink (m_cn q.1) q.2.1 (m_y q.2.2)
noncomputable def w_cl (q : Nat × (Nat × Nat)) : Cond := .classLink (m_cn q.1) q.2.1 (m_cn q.2.2)
noncomputable def w_kl (q : Nat × (Nat × Int32)) : Cond := .constant (m_cn q.1) q.2.1 q.2.2
noncomputable def m_jn (z : Nat) : MethodName := match z with
  | 0 => objectInit
  | 1 => Lib.Math.min.name
  | 2 => Lib.Math.max.name
  | 3 => arraycopyName
  | 4 => yJ0_length_8abf5
  | _ => yJ0_charAt_5068e
noncomputable def w_jl (q : Nat × (Nat × Nat)) : Cond := .methodLink (m_cn q.1) q.2.1 (m_jn q.2.2)
set_option maxRecDepth 100000 in
theorem m_fl_ok : ∀ q ∈ m_fl, w_fl q ∈ m_ws := m_pl_all (by decide +kernel)
set_option maxRecDepth 100000 in
theorem m_ml_ok : ∀ q ∈ m_ml, w_ml q ∈ m_ws := m_pl_all (by decide +kernel)
set_option maxRecDepth 100000 in
theorem m_cl_ok : ∀ q ∈ m_cl, w_cl q ∈ m_ws := m_pl_all (by decide +kernel)
set_option maxRecDepth 100000 in
theorem m_kl_ok : ∀ q ∈ m_kl, w_kl q ∈ m_ws := m_pl_all (by decide +kernel)
set_option maxRecDepth 100000 in
theorem m_jl_ok : ∀ q ∈ m_jl, w_jl q ∈ m_ws := m_pl_all (by decide +kernel)
theorem m_pr_in {j k : Nat} {w : Cond} (h : (m_tb j)[k]? = some w) (g : goodWord w = true) : w ∈ m_ws := List.mem_filter.mpr ⟨m_tb_in (List.mem_of_getElem? h), g⟩
set_option maxRecDepth 100000 in
theorem k_X0_init : m_cw 0 ∈ m_ws := m_pr_in (j := 1) (k := 114) rfl rfl
set_option maxRecDepth 100000 in
theorem k_X0_setTo : m_cw 1 ∈ m_ws := m_pr_in (j := 2) (k := 116) rfl rfl
set_option maxRecDepth 100000 in
theorem k_X0_latestHolder : m_cw 2 ∈ m_ws := m_pr_in (j := 2) (k := 104) rfl rfl
set_option maxRecDepth 100000 in
theorem k_X0_hasPassed : m_cw 3 ∈ m_ws := m_pr_in (j := 2) (k := 184) rfl rfl
set_option maxRecDepth 100000 in
theorem k_X0_nameHand : m_cw 4 ∈ m_ws := m_pr_in (j := 2) (k := 176) rfl rfl
set_option maxRecDepth 100000 in
theorem k_X0_ask : m_cw 5 ∈ m_ws := m_pr_in (j := 4) (k := 229) rfl rfl
set_option maxRecDepth 100000 in
theorem k_X0_dropQuestion : m_cw 6 ∈ m_ws := m_pr_in (j := 5) (k := 42) rfl rfl
set_option maxRecDepth 100000 in
theorem k_X0_suppose : m_cw 7 ∈ m_ws := m_pr_in (j := 2) (k := 139) rfl rfl
set_option maxRecDepth 100000 in
theorem k_X0_tell : m_cw 8 ∈ m_ws := m_pr_in (j := 2) (k := 143) rfl rfl
set_option maxRecDepth 100000 in
theorem k_X1_init : m_cw 9 ∈ m_ws := m_pr_in (j := 2) (k := 9) rfl rfl
set_option maxRecDepth 100000 in
theorem k_X1_reckon : m_cw 10 ∈ m_ws := m_pr_in (j := 2) (k := 163) rfl rfl
set_option maxRecDepth 100000 in
theorem k_X1_clear : m_cw 11 ∈ m_ws := m_pr_in (j := 2) (k := 167) rfl rfl
set_option maxRecDepth 100000 in
theorem k_X1_claimOn : m_cw 12 ∈ m_ws := m_pr_in (j := 2) (k := 172) rfl rfl
set_option maxRecDepth 100000 in
theorem k_X1_payUp : m_cw 13 ∈ m_ws := m_pr_in (j := 2) (k := 222) rfl rfl
set_option maxRecDepth 100000 in
theorem k_X1_payOwner : m_cw 14 ∈ m_ws := m_pr_in (j := 2) (k := 227) rfl rfl
set_option maxRecDepth 100000 in
theorem k_X1_titleFor : m_cw 15 ∈ m_ws := m_pr_in (j := 3) (k := 4) rfl rfl
set_option maxRecDepth 100000 in
theorem k_X2_init : m_cw 16 ∈ m_ws := m_pr_in (j := 1) (k := 124) rfl rfl
set_option maxRecDepth 100000 in
theorem k_X2_setTo : m_cw 17 ∈ m_ws := m_pr_in (j := 2) (k := 128) rfl rfl
set_option maxRecDepth 100000 in
theorem k_X2_add : m_cw 18 ∈ m_ws := m_pr_in (j := 5) (k := 60) rfl rfl
set_option maxRecDepth 100000 in
theorem k_X2_all : m_cw 19 ∈ m_ws := m_pr_in (j := 3) (k := 24) rfl rfl
set_option maxRecDepth 100000 in
theorem k_X2_allOf : m_cw 20 ∈ m_ws := m_pr_in (j := 5) (k := 71) rfl rfl
set_option maxRecDepth 100000 in
theorem k_X2_lostLast : m_cw 21 ∈ m_ws := m_pr_in (j := 5) (k := 76) rfl rfl
set_option maxRecDepth 100000 in
theorem k_X3_init : m_cw 22 ∈ m_ws := m_pr_in (j := 1) (k := 140) rfl rfl
set_option maxRecDepth 100000 in
theorem k_X3_clear : m_cw 23 ∈ m_ws := m_pr_in (j := 1) (k := 145) rfl rfl
set_option maxRecDepth 100000 in
theorem k_X3_setTo : m_cw 24 ∈ m_ws := m_pr_in (j := 2) (k := 120) rfl rfl
set_option maxRecDepth 100000 in
theorem k_X3_entry : m_cw 25 ∈ m_ws := m_pr_in (j := 4) (k := 138) rfl rfl
set_option maxRecDepth 100000 in
theorem k_X3_hasFact : m_cw 26 ∈ m_ws := m_pr_in (j := 2) (k := 180) rfl rfl
set_option maxRecDepth 100000 in
theorem k_X3_tellFact : m_cw 27 ∈ m_ws := m_pr_in (j := 2) (k := 150) rfl rfl
set_option maxRecDepth 100000 in
theorem k_X4_init : m_cw 28 ∈ m_ws := m_pr_in (j := 1) (k := 34) rfl rfl
set_option maxRecDepth 100000 in
theorem k_X4_clear : m_cw 29 ∈ m_ws := m_pr_in (j := 3) (k := 111) rfl rfl
set_option maxRecDepth 100000 in
theorem k_X4_isFull : m_cw 30 ∈ m_ws := m_pr_in (j := 3) (k := 195) rfl rfl
set_option maxRecDepth 100000 in
theorem k_X4_beginClause : m_cw 31 ∈ m_ws := m_pr_in (j := 3) (k := 204) rfl rfl
set_option maxRecDepth 100000 in
theorem k_X4_include : m_cw 32 ∈ m_ws := m_pr_in (j := 4) (k := 23) rfl rfl
set_option maxRecDepth 100000 in
theorem k_X4_addStep : m_cw 33 ∈ m_ws := m_pr_in (j := 4) (k := 1) rfl rfl
set_option maxRecDepth 100000 in
theorem k_X4_holdsFor : m_cw 34 ∈ m_ws := m_pr_in (j := 2) (k := 199) rfl rfl
set_option maxRecDepth 100000 in
theorem k_X4_owedFor : m_cw 35 ∈ m_ws := m_pr_in (j := 2) (k := 217) rfl rfl
set_option maxRecDepth 100000 in
theorem k_X4_claimFor : m_cw 36 ∈ m_ws := m_pr_in (j := 5) (k := 96) rfl rfl
set_option maxRecDepth 100000 in
theorem k_X4_allows : m_cw 37 ∈ m_ws := m_pr_in (j := 2) (k := 188) rfl rfl
set_option maxRecDepth 100000 in
theorem k_X4_doubles : m_cw 38 ∈ m_ws := m_pr_in (j := 4) (k := 97) rfl rfl
set_option maxRecDepth 100000 in
theorem k_X4_isFor : m_cw 39 ∈ m_ws := m_pr_in (j := 2) (k := 192) rfl rfl
set_option maxRecDepth 100000 in
theorem k_X4_has : m_cw 40 ∈ m_ws := m_pr_in (j := 2) (k := 195) rfl rfl
set_option maxRecDepth 100000 in
theorem k_X4_work : m_cw 41 ∈ m_ws := m_pr_in (j := 2) (k := 203) rfl rfl
set_option maxRecDepth 100000 in
theorem k_X4_join : m_cw 42 ∈ m_ws := m_pr_in (j := 2) (k := 206) rfl rfl
set_option maxRecDepth 100000 in
theorem k_X5_init : m_cw 43 ∈ m_ws := m_pr_in (j := 1) (k := 74) rfl rfl
set_option maxRecDepth 100000 in
theorem k_X5_readLaw : m_cw 44 ∈ m_ws := m_pr_in (j := 3) (k := 106) rfl rfl
set_option maxRecDepth 100000 in
theorem k_X5_readClause : m_cw 45 ∈ m_ws := m_pr_in (j := 3) (k := 125) rfl rfl
set_option maxRecDepth 100000 in
theorem k_X5_readMixing : m_cw 46 ∈ m_ws := m_pr_in (j := 3) (k := 199) rfl rfl
set_option maxRecDepth 100000 in
theorem k_X5_spare : m_cw 47 ∈ m_ws := m_pr_in (j := 4) (k := 58) rfl rfl
set_option maxRecDepth 100000 in
theorem k_X5_readHarms : m_cw 48 ∈ m_ws := m_pr_in (j := 4) (k := 27) rfl rfl
set_option maxRecDepth 100000 in
theorem k_X5_readHarm : m_cw 49 ∈ m_ws := m_pr_in (j := 4) (k := 31) rfl rfl
set_option maxRecDepth 100000 in
theorem k_X5_readTerms : m_cw 50 ∈ m_ws := m_pr_in (j := 4) (k := 15) rfl rfl
set_option maxRecDepth 100000 in
theorem k_X5_readTerm : m_cw 51 ∈ m_ws := m_pr_in (j := 4) (k := 19) rfl rfl
set_option maxRecDepth 100000 in
theorem k_X5_readEither : m_cw 52 ∈ m_ws := m_pr_in (j := 4) (k := 41) rfl rfl
set_option maxRecDepth 100000 in
theorem k_X5_readBoth : m_cw 53 ∈ m_ws := m_pr_in (j := 4) (k := 45) rfl rfl
set_option maxRecDepth 100000 in
theorem k_X5_readCondition : m_cw 54 ∈ m_ws := m_pr_in (j := 4) (k := 49) rfl rfl
set_option maxRecDepth 100000 in
theorem k_X5_readNot : m_cw 55 ∈ m_ws := m_pr_in (j := 4) (k := 54) rfl rfl
set_option maxRecDepth 100000 in
theorem k_X5_takeComparison : m_cw 56 ∈ m_ws := m_pr_in (j := 4) (k := 58) rfl rfl
set_option maxRecDepth 100000 in
theorem k_X5_readSum : m_cw 57 ∈ m_ws := m_pr_in (j := 3) (k := 213) rfl rfl
set_option maxRecDepth 100000 in
theorem k_X5_readProduct : m_cw 58 ∈ m_ws := m_pr_in (j := 3) (k := 217) rfl rfl
set_option maxRecDepth 100000 in
theorem k_X5_readUnit : m_cw 59 ∈ m_ws := m_pr_in (j := 3) (k := 221) rfl rfl
set_option maxRecDepth 100000 in
theorem k_X5_readNumber : m_cw 60 ∈ m_ws := m_pr_in (j := 3) (k := 233) rfl rfl
set_option maxRecDepth 100000 in
theorem k_X5_readChoice : m_cw 61 ∈ m_ws := m_pr_in (j := 4) (k := 6) rfl rfl
set_option maxRecDepth 100000 in
theorem k_X5_enter : m_cw 62 ∈ m_ws := m_pr_in (j := 3) (k := 225) rfl rfl
set_option maxRecDepth 100000 in
theorem k_X5_leave : m_cw 63 ∈ m_ws := m_pr_in (j := 3) (k := 229) rfl rfl
set_option maxRecDepth 100000 in
theorem k_X5_take : m_cw 64 ∈ m_ws := m_pr_in (j := 4) (k := 10) rfl rfl
set_option maxRecDepth 100000 in
theorem k_X5_takeWord : m_cw 65 ∈ m_ws := m_pr_in (j := 4) (k := 37) rfl rfl
set_option maxRecDepth 100000 in
theorem k_X5_isNumber : m_cw 66 ∈ m_ws := m_pr_in (j := 3) (k := 237) rfl rfl
set_option maxRecDepth 100000 in
theorem k_X5_fail : m_cw 67 ∈ m_ws := m_pr_in (j := 3) (k := 191) rfl rfl
set_option maxRecDepth 100000 in
theorem k_X5_nextToken : m_cw 68 ∈ m_ws := m_pr_in (j := 3) (k := 115) rfl rfl
set_option maxRecDepth 100000 in
theorem k_X5_isLetter : m_cw 69 ∈ m_ws := m_pr_in (j := 3) (k := 118) rfl rfl
set_option maxRecDepth 100000 in
theorem k_X5_isDigit : m_cw 70 ∈ m_ws := m_pr_in (j := 3) (k := 121) rfl rfl
set_option maxRecDepth 100000 in
theorem k_X5_isWord : m_cw 71 ∈ m_ws := m_pr_in (j := 3) (k := 187) rfl rfl
set_option maxRecDepth 100000 in
theorem k_X5_wordOf : m_cw 72 ∈ m_ws := m_pr_in (j := 3) (k := 130) rfl rfl
set_option maxRecDepth 100000 in
theorem k_X5_isSame : m_cw 73 ∈ m_ws := m_pr_in (j := 3) (k := 182) rfl rfl
set_option maxRecDepth 100000 in
theorem k_X5_bitsOf : m_cw 74 ∈ m_ws := m_pr_in (j := 3) (k := 209) rfl rfl
set_option maxRecDepth 100000 in
theorem k_X6_init : m_cw 75 ∈ m_ws := m_pr_in (j := 1) (k := 188) rfl rfl
set_option maxRecDepth 100000 in
theorem k_X6_setTo : m_cw 76 ∈ m_ws := m_pr_in (j := 2) (k := 124) rfl rfl
set_option maxRecDepth 100000 in
theorem k_X7_init : m_cw 77 ∈ m_ws := m_pr_in (j := 1) (k := 25) rfl rfl
set_option maxRecDepth 100000 in
theorem k_X7_feed : m_cw 78 ∈ m_ws := m_pr_in (j := 2) (k := 88) rfl rfl
set_option maxRecDepth 100000 in
theorem k_X7_law : m_cw 79 ∈ m_ws := m_pr_in (j := 3) (k := 32) rfl rfl
set_option maxRecDepth 100000 in
theorem k_X7_fault : m_cw 80 ∈ m_ws := m_pr_in (j := 2) (k := 96) rfl rfl
set_option maxRecDepth 100000 in
theorem k_X7_force : m_cw 81 ∈ m_ws := m_pr_in (j := 4) (k := 67) rfl rfl
set_option maxRecDepth 100000 in
theorem k_X7_words : m_cw 82 ∈ m_ws := m_pr_in (j := 4) (k := 74) rfl rfl
set_option maxRecDepth 100000 in
theorem k_X7_lets : m_cw 83 ∈ m_ws := m_pr_in (j := 4) (k := 93) rfl rfl
set_option maxRecDepth 100000 in
theorem k_X7_pass : m_cw 84 ∈ m_ws := m_pr_in (j := 4) (k := 105) rfl rfl
set_option maxRecDepth 100000 in
theorem k_X7_hand : m_cw 85 ∈ m_ws := m_pr_in (j := 4) (k := 114) rfl rfl
set_option maxRecDepth 100000 in
theorem k_X7_value : m_cw 86 ∈ m_ws := m_pr_in (j := 4) (k := 145) rfl rfl
set_option maxRecDepth 100000 in
theorem k_X7_purse : m_cw 87 ∈ m_ws := m_pr_in (j := 4) (k := 152) rfl rfl
set_option maxRecDepth 100000 in
theorem k_X7_fact : m_cw 88 ∈ m_ws := m_pr_in (j := 4) (k := 159) rfl rfl
set_option maxRecDepth 100000 in
theorem k_X7_harm : m_cw 89 ∈ m_ws := m_pr_in (j := 4) (k := 168) rfl rfl
set_option maxRecDepth 100000 in
theorem k_X7_holder : m_cw 90 ∈ m_ws := m_pr_in (j := 2) (k := 100) rfl rfl
set_option maxRecDepth 100000 in
theorem k_X7_name : m_cw 91 ∈ m_ws := m_pr_in (j := 4) (k := 175) rfl rfl
set_option maxRecDepth 100000 in
theorem k_X7_claim : m_cw 92 ∈ m_ws := m_pr_in (j := 4) (k := 183) rfl rfl
set_option maxRecDepth 100000 in
theorem k_X7_whom : m_cw 93 ∈ m_ws := m_pr_in (j := 4) (k := 190) rfl rfl
set_option maxRecDepth 100000 in
theorem k_X7_pays : m_cw 94 ∈ m_ws := m_pr_in (j := 4) (k := 197) rfl rfl
set_option maxRecDepth 100000 in
theorem k_X7_bears : m_cw 95 ∈ m_ws := m_pr_in (j := 4) (k := 204) rfl rfl
set_option maxRecDepth 100000 in
theorem k_X7_must : m_cw 96 ∈ m_ws := m_pr_in (j := 4) (k := 211) rfl rfl
set_option maxRecDepth 100000 in
theorem k_X7_frees : m_cw 97 ∈ m_ws := m_pr_in (j := 4) (k := 218) rfl rfl
set_option maxRecDepth 100000 in
theorem k_X7_question : m_cw 98 ∈ m_ws := m_pr_in (j := 4) (k := 225) rfl rfl
set_option maxRecDepth 100000 in
theorem k_X7_inCase : m_cw 99 ∈ m_ws := m_pr_in (j := 4) (k := 236) rfl rfl
set_option maxRecDepth 100000 in
theorem k_X7_sure : m_cw 100 ∈ m_ws := m_pr_in (j := 5) (k := 3) rfl rfl
set_option maxRecDepth 100000 in
theorem k_X7_cases : m_cw 101 ∈ m_ws := m_pr_in (j := 5) (k := 18) rfl rfl
set_option maxRecDepth 100000 in
theorem k_X7_hangs : m_cw 102 ∈ m_ws := m_pr_in (j := 5) (k := 25) rfl rfl
set_option maxRecDepth 100000 in
theorem k_X7_least : m_cw 103 ∈ m_ws := m_pr_in (j := 2) (k := 108) rfl rfl
set_option maxRecDepth 100000 in
theorem k_X7_find : m_cw 104 ∈ m_ws := m_pr_in (j := 5) (k := 36) rfl rfl
set_option maxRecDepth 100000 in
theorem k_X7_title : m_cw 105 ∈ m_ws := m_pr_in (j := 3) (k := 0) rfl rfl
set_option maxRecDepth 100000 in
theorem k_X7_found : m_cw 106 ∈ m_ws := m_pr_in (j := 5) (k := 49) rfl rfl
set_option maxRecDepth 100000 in
theorem k_X7_put : m_cw 107 ∈ m_ws := m_pr_in (j := 5) (k := 56) rfl rfl
set_option maxRecDepth 100000 in
theorem k_X7_share : m_cw 108 ∈ m_ws := m_pr_in (j := 5) (k := 67) rfl rfl
set_option maxRecDepth 100000 in
theorem k_X7_judge : m_cw 109 ∈ m_ws := m_pr_in (j := 5) (k := 85) rfl rfl
set_option maxRecDepth 100000 in
theorem k_X7_wrong : m_cw 110 ∈ m_ws := m_pr_in (j := 3) (k := 8) rfl rfl
set_option maxRecDepth 100000 in
theorem k_X7_parting : m_cw 111 ∈ m_ws := m_pr_in (j := 5) (k := 92) rfl rfl
set_option maxRecDepth 100000 in
theorem k_X7_beside : m_cw 112 ∈ m_ws := m_pr_in (j := 5) (k := 105) rfl rfl
set_option maxRecDepth 100000 in
theorem k_X7_image : m_cw 113 ∈ m_ws := m_pr_in (j := 3) (k := 12) rfl rfl
set_option maxRecDepth 100000 in
theorem k_X7_restore : m_cw 114 ∈ m_ws := m_pr_in (j := 3) (k := 16) rfl rfl
set_option maxRecDepth 100000 in
theorem k_X7_count : m_cw 115 ∈ m_ws := m_pr_in (j := 3) (k := 20) rfl rfl
set_option maxRecDepth 100000 in
theorem k_X7_need : m_cw 116 ∈ m_ws := m_pr_in (j := 3) (k := 35) rfl rfl
set_option maxRecDepth 100000 in
theorem k_X7_needHand : m_cw 117 ∈ m_ws := m_pr_in (j := 4) (k := 118) rfl rfl
set_option maxRecDepth 100000 in
theorem k_X7_isWithin : m_cw 118 ∈ m_ws := m_pr_in (j := 2) (k := 146) rfl rfl
set_option maxRecDepth 100000 in
theorem k_X7_isLaw : m_cw 119 ∈ m_ws := m_pr_in (j := 2) (k := 158) rfl rfl
set_option maxRecDepth 100000 in
theorem k_X7_lawInForce : m_cw 120 ∈ m_ws := m_pr_in (j := 2) (k := 154) rfl rfl
set_option maxRecDepth 100000 in
theorem k_X7_layOnTape : m_cw 121 ∈ m_ws := m_pr_in (j := 2) (k := 92) rfl rfl
set_option maxRecDepth 100000 in
theorem k_X7_keepingOfCase : m_cw 122 ∈ m_ws := m_pr_in (j := 4) (k := 81) rfl rfl
set_option maxRecDepth 100000 in
theorem k_X7_harmOfCase : m_cw 123 ∈ m_ws := m_pr_in (j := 4) (k := 85) rfl rfl
set_option maxRecDepth 100000 in
theorem k_X7_nameCase : m_cw 124 ∈ m_ws := m_pr_in (j := 4) (k := 78) rfl rfl
set_option maxRecDepth 100000 in
theorem k_X7_allCases : m_cw 125 ∈ m_ws := m_pr_in (j := 2) (k := 135) rfl rfl
set_option maxRecDepth 100000 in
theorem k_X7_reckonCases : m_cw 126 ∈ m_ws := m_pr_in (j := 2) (k := 112) rfl rfl
set_option maxRecDepth 100000 in
theorem k_X7_isBurdened : m_cw 127 ∈ m_ws := m_pr_in (j := 5) (k := 11) rfl rfl
set_option maxRecDepth 100000 in
theorem k_X7_burdenedCases : m_cw 128 ∈ m_ws := m_pr_in (j := 5) (k := 7) rfl rfl
set_option maxRecDepth 100000 in
theorem k_X7_casesLikeBit : m_cw 129 ∈ m_ws := m_pr_in (j := 5) (k := 29) rfl rfl
set_option maxRecDepth 100000 in
theorem k_X7_matters : m_cw 130 ∈ m_ws := m_pr_in (j := 2) (k := 232) rfl rfl
set_option maxRecDepth 100000 in
theorem k_X7_areBorneAlike : m_cw 131 ∈ m_ws := m_pr_in (j := 2) (k := 236) rfl rfl
set_option maxRecDepth 100000 in
theorem k_X8_init : m_cw 132 ∈ m_ws := m_pr_in (j := 5) (k := 110) rfl rfl
set_option maxRecDepth 100000 in
theorem k_X8_thrown : m_cw 133 ∈ m_ws := m_pr_in (j := 6) (k := 42) rfl rfl
set_option maxRecDepth 100000 in
theorem k_X8_bad : m_cw 134 ∈ m_ws := m_pr_in (j := 6) (k := 57) rfl rfl
set_option maxRecDepth 100000 in
theorem k_X8_in : m_cw 135 ∈ m_ws := m_pr_in (j := 6) (k := 53) rfl rfl
set_option maxRecDepth 100000 in
theorem k_X8_less : m_cw 136 ∈ m_ws := m_pr_in (j := 6) (k := 187) rfl rfl
set_option maxRecDepth 100000 in
theorem k_X8_feed : m_cw 137 ∈ m_ws := m_pr_in (j := 6) (k := 46) rfl rfl
set_option maxRecDepth 100000 in
theorem k_X8_byteAt : m_cw 138 ∈ m_ws := m_pr_in (j := 6) (k := 69) rfl rfl
set_option maxRecDepth 100000 in
theorem k_X8_blanks : m_cw 139 ∈ m_ws := m_pr_in (j := 6) (k := 65) rfl rfl
set_option maxRecDepth 100000 in
theorem k_X8_wrongAt : m_cw 140 ∈ m_ws := m_pr_in (j := 6) (k := 96) rfl rfl
set_option maxRecDepth 100000 in
theorem k_X8_isDigit : m_cw 141 ∈ m_ws := m_pr_in (j := 6) (k := 151) rfl rfl
set_option maxRecDepth 100000 in
theorem k_X8_number : m_cw 142 ∈ m_ws := m_pr_in (j := 6) (k := 155) rfl rfl
set_option maxRecDepth 100000 in
theorem k_X8_wordHere : m_cw 143 ∈ m_ws := m_pr_in (j := 6) (k := 85) rfl rfl
set_option maxRecDepth 100000 in
theorem k_X8_isAnswers : m_cw 144 ∈ m_ws := m_pr_in (j := 6) (k := 89) rfl rfl
set_option maxRecDepth 100000 in
theorem k_X8_word : m_cw 145 ∈ m_ws := m_pr_in (j := 6) (k := 92) rfl rfl
set_option maxRecDepth 100000 in
theorem k_X8_isWord : m_cw 146 ∈ m_ws := m_pr_in (j := 6) (k := 81) rfl rfl
set_option maxRecDepth 100000 in
theorem k_X8_skipWord : m_cw 147 ∈ m_ws := m_pr_in (j := 6) (k := 100) rfl rfl
set_option maxRecDepth 100000 in
theorem k_X8_sign : m_cw 148 ∈ m_ws := m_pr_in (j := 6) (k := 136) rfl rfl
set_option maxRecDepth 100000 in
theorem k_X8_opens : m_cw 149 ∈ m_ws := m_pr_in (j := 6) (k := 132) rfl rfl
set_option maxRecDepth 100000 in
theorem k_X8_nameHere : m_cw 150 ∈ m_ws := m_pr_in (j := 6) (k := 160) rfl rfl
set_option maxRecDepth 100000 in
theorem k_X8_unit : m_cw 151 ∈ m_ws := m_pr_in (j := 6) (k := 148) rfl rfl
set_option maxRecDepth 100000 in
theorem k_X8_product : m_cw 152 ∈ m_ws := m_pr_in (j := 6) (k := 144) rfl rfl
set_option maxRecDepth 100000 in
theorem k_X8_sum : m_cw 153 ∈ m_ws := m_pr_in (j := 6) (k := 140) rfl rfl
set_option maxRecDepth 100000 in
theorem k_X8_test : m_cw 154 ∈ m_ws := m_pr_in (j := 6) (k := 128) rfl rfl
set_option maxRecDepth 100000 in
theorem k_X8_ands : m_cw 155 ∈ m_ws := m_pr_in (j := 6) (k := 124) rfl rfl
set_option maxRecDepth 100000 in
theorem k_X8_ors : m_cw 156 ∈ m_ws := m_pr_in (j := 6) (k := 120) rfl rfl
set_option maxRecDepth 100000 in
theorem k_X8_keepingHere : m_cw 157 ∈ m_ws := m_pr_in (j := 6) (k := 77) rfl rfl
set_option maxRecDepth 100000 in
theorem k_X8_harmHere : m_cw 158 ∈ m_ws := m_pr_in (j := 6) (k := 116) rfl rfl
set_option maxRecDepth 100000 in
theorem k_X8_harms : m_cw 159 ∈ m_ws := m_pr_in (j := 6) (k := 112) rfl rfl
set_option maxRecDepth 100000 in
theorem k_X8_terms : m_cw 160 ∈ m_ws := m_pr_in (j := 6) (k := 164) rfl rfl
set_option maxRecDepth 100000 in
theorem k_X8_clause : m_cw 161 ∈ m_ws := m_pr_in (j := 6) (k := 73) rfl rfl
set_option maxRecDepth 100000 in
theorem k_X8_mixes : m_cw 162 ∈ m_ws := m_pr_in (j := 6) (k := 104) rfl rfl
set_option maxRecDepth 100000 in
theorem k_X8_says : m_cw 163 ∈ m_ws := m_pr_in (j := 6) (k := 108) rfl rfl
set_option maxRecDepth 100000 in
theorem k_X8_walks : m_cw 164 ∈ m_ws := m_pr_in (j := 6) (k := 61) rfl rfl
set_option maxRecDepth 100000 in
theorem k_X8_law : m_cw 165 ∈ m_ws := m_pr_in (j := 6) (k := 50) rfl rfl
set_option maxRecDepth 100000 in
theorem k_X8_fault : m_cw 166 ∈ m_ws := m_pr_in (j := 6) (k := 168) rfl rfl
set_option maxRecDepth 100000 in
theorem k_X8_force : m_cw 167 ∈ m_ws := m_pr_in (j := 6) (k := 172) rfl rfl
set_option maxRecDepth 100000 in
theorem k_X8_asks : m_cw 168 ∈ m_ws := m_pr_in (j := 6) (k := 184) rfl rfl
set_option maxRecDepth 100000 in
theorem k_X8_tellsBits : m_cw 169 ∈ m_ws := m_pr_in (j := 6) (k := 180) rfl rfl
set_option maxRecDepth 100000 in
theorem k_X8_words : m_cw 170 ∈ m_ws := m_pr_in (j := 6) (k := 176) rfl rfl
set_option maxRecDepth 100000 in
theorem k_X8_lets : m_cw 171 ∈ m_ws := m_pr_in (j := 6) (k := 191) rfl rfl
set_option maxRecDepth 100000 in
theorem k_X8_pass : m_cw 172 ∈ m_ws := m_pr_in (j := 6) (k := 195) rfl rfl
set_option maxRecDepth 100000 in
theorem k_X8_isHand : m_cw 173 ∈ m_ws := m_pr_in (j := 6) (k := 203) rfl rfl
set_option maxRecDepth 100000 in
theorem k_X8_hand : m_cw 174 ∈ m_ws := m_pr_in (j := 6) (k := 199) rfl rfl
set_option maxRecDepth 100000 in
theorem k_X8_value : m_cw 175 ∈ m_ws := m_pr_in (j := 6) (k := 207) rfl rfl
set_option maxRecDepth 100000 in
theorem k_X8_purse : m_cw 176 ∈ m_ws := m_pr_in (j := 6) (k := 211) rfl rfl
set_option maxRecDepth 100000 in
theorem k_X8_fact : m_cw 177 ∈ m_ws := m_pr_in (j := 6) (k := 215) rfl rfl
set_option maxRecDepth 100000 in
theorem k_X8_harm : m_cw 178 ∈ m_ws := m_pr_in (j := 6) (k := 219) rfl rfl
set_option maxRecDepth 100000 in
theorem k_X8_findHolder : m_cw 179 ∈ m_ws := m_pr_in (j := 6) (k := 227) rfl rfl
set_option maxRecDepth 100000 in
theorem k_X8_hasPassed : m_cw 180 ∈ m_ws := m_pr_in (j := 7) (k := 3) rfl rfl
set_option maxRecDepth 100000 in
theorem k_X8_tellsNames : m_cw 181 ∈ m_ws := m_pr_in (j := 6) (k := 239) rfl rfl
set_option maxRecDepth 100000 in
theorem k_X8_ends : m_cw 182 ∈ m_ws := m_pr_in (j := 6) (k := 235) rfl rfl
set_option maxRecDepth 100000 in
theorem k_X8_holder : m_cw 183 ∈ m_ws := m_pr_in (j := 6) (k := 223) rfl rfl
set_option maxRecDepth 100000 in
theorem k_X8_isWithin : m_cw 184 ∈ m_ws := m_pr_in (j := 7) (k := 7) rfl rfl
set_option maxRecDepth 100000 in
theorem k_X8_name : m_cw 185 ∈ m_ws := m_pr_in (j := 6) (k := 231) rfl rfl
set_option maxRecDepth 100000 in
theorem k_X8_claim : m_cw 186 ∈ m_ws := m_pr_in (j := 7) (k := 11) rfl rfl
set_option maxRecDepth 100000 in
theorem k_X8_whom : m_cw 187 ∈ m_ws := m_pr_in (j := 7) (k := 15) rfl rfl
set_option maxRecDepth 100000 in
theorem k_X8_pays : m_cw 188 ∈ m_ws := m_pr_in (j := 7) (k := 19) rfl rfl
set_option maxRecDepth 100000 in
theorem k_X8_bears : m_cw 189 ∈ m_ws := m_pr_in (j := 7) (k := 23) rfl rfl
set_option maxRecDepth 100000 in
theorem k_X8_must : m_cw 190 ∈ m_ws := m_pr_in (j := 7) (k := 27) rfl rfl
set_option maxRecDepth 100000 in
theorem k_X8_frees : m_cw 191 ∈ m_ws := m_pr_in (j := 7) (k := 31) rfl rfl
set_option maxRecDepth 100000 in
theorem k_X8_question : m_cw 192 ∈ m_ws := m_pr_in (j := 7) (k := 35) rfl rfl
set_option maxRecDepth 100000 in
theorem k_X8_goesInto : m_cw 193 ∈ m_ws := m_pr_in (j := 7) (k := 51) rfl rfl
set_option maxRecDepth 100000 in
theorem k_X8_comesBack : m_cw 194 ∈ m_ws := m_pr_in (j := 7) (k := 55) rfl rfl
set_option maxRecDepth 100000 in
theorem k_X8_caseMany : m_cw 195 ∈ m_ws := m_pr_in (j := 7) (k := 43) rfl rfl
set_option maxRecDepth 100000 in
theorem k_X8_findCases : m_cw 196 ∈ m_ws := m_pr_in (j := 7) (k := 47) rfl rfl
set_option maxRecDepth 100000 in
theorem k_X8_inCase : m_cw 197 ∈ m_ws := m_pr_in (j := 7) (k := 39) rfl rfl
set_option maxRecDepth 100000 in
theorem k_X8_casesOf : m_cw 198 ∈ m_ws := m_pr_in (j := 7) (k := 63) rfl rfl
set_option maxRecDepth 100000 in
theorem k_X8_sure : m_cw 199 ∈ m_ws := m_pr_in (j := 7) (k := 59) rfl rfl
set_option maxRecDepth 100000 in
theorem k_X8_cases : m_cw 200 ∈ m_ws := m_pr_in (j := 7) (k := 67) rfl rfl
set_option maxRecDepth 100000 in
theorem k_X8_hangs : m_cw 201 ∈ m_ws := m_pr_in (j := 7) (k := 71) rfl rfl
set_option maxRecDepth 100000 in
theorem k_X8_ones : m_cw 202 ∈ m_ws := m_pr_in (j := 7) (k := 78) rfl rfl
set_option maxRecDepth 100000 in
theorem k_X8_areAlike : m_cw 203 ∈ m_ws := m_pr_in (j := 7) (k := 86) rfl rfl
set_option maxRecDepth 100000 in
theorem k_X8_settles : m_cw 204 ∈ m_ws := m_pr_in (j := 7) (k := 82) rfl rfl
set_option maxRecDepth 100000 in
theorem k_X8_least : m_cw 205 ∈ m_ws := m_pr_in (j := 7) (k := 75) rfl rfl
set_option maxRecDepth 100000 in
theorem k_X8_find : m_cw 206 ∈ m_ws := m_pr_in (j := 7) (k := 90) rfl rfl
set_option maxRecDepth 100000 in
theorem k_X8_titleNow : m_cw 207 ∈ m_ws := m_pr_in (j := 7) (k := 98) rfl rfl
set_option maxRecDepth 100000 in
theorem k_X8_title : m_cw 208 ∈ m_ws := m_pr_in (j := 7) (k := 94) rfl rfl
set_option maxRecDepth 100000 in
theorem k_X8_found : m_cw 209 ∈ m_ws := m_pr_in (j := 7) (k := 102) rfl rfl
set_option maxRecDepth 100000 in
theorem k_X8_put : m_cw 210 ∈ m_ws := m_pr_in (j := 7) (k := 106) rfl rfl
set_option maxRecDepth 100000 in
theorem k_X8_share : m_cw 211 ∈ m_ws := m_pr_in (j := 7) (k := 110) rfl rfl
set_option maxRecDepth 100000 in
theorem k_X8_judge : m_cw 212 ∈ m_ws := m_pr_in (j := 7) (k := 114) rfl rfl
set_option maxRecDepth 100000 in
theorem k_X8_wrong : m_cw 213 ∈ m_ws := m_pr_in (j := 7) (k := 118) rfl rfl
set_option maxRecDepth 100000 in
theorem k_X8_claimIn : m_cw 214 ∈ m_ws := m_pr_in (j := 7) (k := 126) rfl rfl
set_option maxRecDepth 100000 in
theorem k_X8_parting : m_cw 215 ∈ m_ws := m_pr_in (j := 7) (k := 122) rfl rfl
set_option maxRecDepth 100000 in
theorem k_X8_beside : m_cw 216 ∈ m_ws := m_pr_in (j := 7) (k := 130) rfl rfl
set_option maxRecDepth 100000 in
theorem k_X8_moves : m_cw 217 ∈ m_ws := m_pr_in (j := 7) (k := 142) rfl rfl
set_option maxRecDepth 100000 in
theorem k_X8_movesAll : m_cw 218 ∈ m_ws := m_pr_in (j := 7) (k := 138) rfl rfl
set_option maxRecDepth 100000 in
theorem k_X8_image : m_cw 219 ∈ m_ws := m_pr_in (j := 7) (k := 134) rfl rfl
set_option maxRecDepth 100000 in
theorem k_X8_restore : m_cw 220 ∈ m_ws := m_pr_in (j := 7) (k := 146) rfl rfl
set_option maxRecDepth 100000 in
theorem k_X8_count : m_cw 221 ∈ m_ws := m_pr_in (j := 7) (k := 150) rfl rfl
set_option maxRecDepth 100000 in
theorem k_L_law : m_cw 222 ∈ m_ws := m_pr_in (j := 3) (k := 27) rfl rfl
set_option maxRecDepth 100000 in
theorem k_L_force : m_cw 223 ∈ m_ws := m_pr_in (j := 4) (k := 63) rfl rfl
set_option maxRecDepth 100000 in
theorem k_L_words : m_cw 224 ∈ m_ws := m_pr_in (j := 4) (k := 70) rfl rfl
set_option maxRecDepth 100000 in
theorem k_L_lets : m_cw 225 ∈ m_ws := m_pr_in (j := 4) (k := 89) rfl rfl
set_option maxRecDepth 100000 in
theorem k_L_pass : m_cw 226 ∈ m_ws := m_pr_in (j := 4) (k := 101) rfl rfl
set_option maxRecDepth 100000 in
theorem k_L_hand : m_cw 227 ∈ m_ws := m_pr_in (j := 4) (k := 109) rfl rfl
set_option maxRecDepth 100000 in
theorem k_L_value : m_cw 228 ∈ m_ws := m_pr_in (j := 4) (k := 141) rfl rfl
set_option maxRecDepth 100000 in
theorem k_L_purse : m_cw 229 ∈ m_ws := m_pr_in (j := 4) (k := 148) rfl rfl
set_option maxRecDepth 100000 in
theorem k_L_fact : m_cw 230 ∈ m_ws := m_pr_in (j := 4) (k := 155) rfl rfl
set_option maxRecDepth 100000 in
theorem k_L_harm : m_cw 231 ∈ m_ws := m_pr_in (j := 4) (k := 164) rfl rfl
set_option maxRecDepth 100000 in
theorem k_L_name : m_cw 232 ∈ m_ws := m_pr_in (j := 4) (k := 171) rfl rfl
set_option maxRecDepth 100000 in
theorem k_L_claim : m_cw 233 ∈ m_ws := m_pr_in (j := 4) (k := 179) rfl rfl
set_option maxRecDepth 100000 in
theorem k_L_whom : m_cw 234 ∈ m_ws := m_pr_in (j := 4) (k := 186) rfl rfl
set_option maxRecDepth 100000 in
theorem k_L_pays : m_cw 235 ∈ m_ws := m_pr_in (j := 4) (k := 193) rfl rfl
set_option maxRecDepth 100000 in
theorem k_L_bears : m_cw 236 ∈ m_ws := m_pr_in (j := 4) (k := 200) rfl rfl
set_option maxRecDepth 100000 in
theorem k_L_must : m_cw 237 ∈ m_ws := m_pr_in (j := 4) (k := 207) rfl rfl
set_option maxRecDepth 100000 in
theorem k_L_frees : m_cw 238 ∈ m_ws := m_pr_in (j := 4) (k := 214) rfl rfl
set_option maxRecDepth 100000 in
theorem k_L_question : m_cw 239 ∈ m_ws := m_pr_in (j := 4) (k := 221) rfl rfl
set_option maxRecDepth 100000 in
theorem k_L_inCase : m_cw 240 ∈ m_ws := m_pr_in (j := 4) (k := 232) rfl rfl
set_option maxRecDepth 100000 in
theorem k_L_sure : m_cw 241 ∈ m_ws := m_pr_in (j := 4) (k := 239) rfl rfl
set_option maxRecDepth 100000 in
theorem k_L_cases : m_cw 242 ∈ m_ws := m_pr_in (j := 5) (k := 14) rfl rfl
set_option maxRecDepth 100000 in
theorem k_L_hangs : m_cw 243 ∈ m_ws := m_pr_in (j := 5) (k := 21) rfl rfl
set_option maxRecDepth 100000 in
theorem k_L_find : m_cw 244 ∈ m_ws := m_pr_in (j := 5) (k := 32) rfl rfl
set_option maxRecDepth 100000 in
theorem k_L_found : m_cw 245 ∈ m_ws := m_pr_in (j := 5) (k := 45) rfl rfl
set_option maxRecDepth 100000 in
theorem k_L_put : m_cw 246 ∈ m_ws := m_pr_in (j := 5) (k := 52) rfl rfl
set_option maxRecDepth 100000 in
theorem k_L_share : m_cw 247 ∈ m_ws := m_pr_in (j := 5) (k := 63) rfl rfl
set_option maxRecDepth 100000 in
theorem k_L_judge : m_cw 248 ∈ m_ws := m_pr_in (j := 5) (k := 81) rfl rfl
set_option maxRecDepth 100000 in
theorem k_L_parting : m_cw 249 ∈ m_ws := m_pr_in (j := 5) (k := 88) rfl rfl
set_option maxRecDepth 100000 in
theorem k_L_beside : m_cw 250 ∈ m_ws := m_pr_in (j := 5) (k := 101) rfl rfl
set_option maxRecDepth 100000 in
theorem m_in_ok : ∀ q ∈ m_inl, Cond.instanceMethod (m_y q) ∈ m_ws := m_pl_all (f := fun q => Cond.instanceMethod (m_y q)) (by decide +kernel)
set_option maxRecDepth 100000 in
theorem m_st_ok : ∀ q ∈ m_stl, Cond.static (m_y q) ∈ m_ws := m_pl_all (f := fun q => Cond.static (m_y q)) (by decide +kernel)
set_option maxRecDepth 100000 in
theorem m_se_ok : ∀ q ∈ m_sel, Cond.selects (m_y q).cls (m_y q) (m_y q) ∈ m_ws := m_pl_all (f := fun q => Cond.selects (m_y q).cls (m_y q) (m_y q)) (by decide +kernel)
set_option maxRecDepth 100000 in
theorem m_it_ok : ∀ q ∈ m_itp.map (fun q => q.2), Cond.initialized (m_cn q) ∈ m_ws := m_pl_all (f := fun q => Cond.initialized (m_cn q)) (by decide +kernel)
set_option maxRecDepth 100000 in
theorem m_is_ok : ∀ q ∈ m_isp.map (fun q => q.2), Cond.instantiable (m_cn q) (m_vc q).2.2 ∈ m_ws := m_pl_all (f := fun q => Cond.instantiable (m_cn q) (m_vc q).2.2) (by decide +kernel)
/-- quick looking in lists of numbers -/
def m_mem (k : Nat) : List Nat → Bool
  | [] => false
  | x :: l => Nat.beq x k || m_mem k l
theorem m_mem_in {k : Nat} : ∀ {l : List Nat}, m_mem k l = true → k ∈ l
  | [], h => by simp [m_mem] at h
  | x :: l, h => by
    simp only [m_mem, Bool.or_eq_true] at h
    rcases h with h | h
    · rw [Nat.eq_of_beq_eq_true h]
      exact List.mem_cons_self
    · exact List.mem_cons_of_mem _ (m_mem_in h)
def m_fk (q : Nat × (Nat × (Nat × Nat))) : Nat := ((q.1 * 1000 + q.2.1) * 16 + q.2.2.1) * 64 + q.2.2.2
def m_mk (q : Nat × (Nat × Nat)) : Nat := (q.1 * 1000 + q.2.1) * 512 + q.2.2
def m_flk : List Nat := [11264, 17409, 21506, 24579, 27653, 32774, 39944, 50183, 59396, 62657, 65732, 72898, 80064, 83139, 91520, 94593, 97666, 1033280, 1039425, 1042498, 1045571, 1048644, 1052741, 1055814, 1068103, 1080322, 1087488, 1097920, 1102851, 1122501, 2057345, 2063490, 2066560, 3086528, 3090625, 3093698, 3096771, 3099844, 3102917, 3105990, 3109063, 4105472, 4111618, 4115715, 4118788, 4121861, 4124934, 4128007, 4131081, 4134145, 4137224, 5129536, 5135682, 5142852, 5153091, 5159233, 5162313, 5165383, 5171525, 5232896, 5252424, 5299526, 6151552, 6157697, 6160770, 7177664, 7183810, 7188932, 7196101, 7200198, 7204295, 7210440, 7214537, 7217610, 7224780, 7228877, 7231937, 7247299, 7254336, 7261189, 7289857, 7292928, 7297217, 7305408, 7308482, 7311555, 7314628, 7323650, 7326917, 7336963, 7340036, 7359552, 7362625, 7365698, 7368771, 7371844, 7397383, 7414790, 7419264, 7434248, 7446784, 7455942, 7463371, 7466112, 8201731, 8205833, 8211978, 8215051, 8218125, 8221198, 8224282, 8227355, 8230428, 8233502, 8236575, 8239648, 8244769, 8247843, 8250916, 8253989, 8257062, 8260135, 8263208, 8267305, 8270378, 8273452, 8276525, 8279600, 8282675, 8285749, 8288768, 8291841, 8294914, 8297992, 8301060, 8308230, 8311303, 8343045, 8389136, 8392209, 8398354, 8404495, 8411668, 8417814, 8421909, 8424983, 8428051, 8434200, 8437273, 8447500, 8466973, 8470050, 8488491, 8491566, 8494639, 8526385, 8529458, 8539700]
def m_mlk : List Nat := [22038, 23064, 26700, 28177, 34330, 37891, 43045, 50184, 53787, 529419, 530946, 536076, 538125, 541710, 545796, 552994, 555034, 557091, 559107, 1038355, 1040405, 1540631, 2070046, 2072103, 2074152, 2076201, 2082850, 2084899, 2086442, 2577949, 2584132, 2587181, 2589248, 2592328, 2595399, 2597443, 2598942, 2600494, 2603082, 2604575, 2606649, 2608178, 2609712, 2612289, 2613812, 2617905, 2620448, 2622515, 2624066, 2627637, 2630177, 2631734, 2635319, 2636862, 2638399, 2639928, 2641466, 2643003, 2644540, 2647101, 2651205, 2652742, 2658889, 3604480, 3617401, 3619446, 3621492, 3625004, 3628663, 3632252, 3634298, 3636259, 3638395, 3639842, 3641894, 3643429, 3651095, 3658869, 3660313, 3664922, 3666459, 3671554, 3673720, 3675652, 3677706, 3687937, 3689989, 3692157, 3693575, 3695742, 3697280, 3700353, 3702402, 3712008, 3714054, 3715599, 3719186, 3721747, 3724820, 3726357, 3729444, 3741311, 3742851, 4151946, 4157067, 4158605, 4160652, 4163207, 4165264, 4167311, 4169361, 4172946, 4174990, 4177046, 4178579, 4180117, 4182169, 4183700, 4185239, 4186776, 4188314, 4189852, 4191387, 4192926, 4197533, 4200610, 4203683, 4207263, 4215456, 4220065, 4221574, 4225188, 4226696, 4228265, 4229800, 4231853, 4236468, 4238003, 4239541, 4241078, 4242616, 4248771, 4250305, 4251842, 4253380, 4254918, 4256459, 4258506, 4260044, 4261583, 4266198, 4267737, 4271322, 4611663, 4615761, 4617298, 4619347, 4621396, 4623445, 4626518, 4628055, 4629592, 4631641, 4633179, 4634716, 4636253, 4637790, 4639327, 4640864, 4642913, 4644450, 4646499, 4648036, 4649573, 4651110, 4652648, 4654698, 4656235, 4657772, 4659309, 4660847, 4662384, 4663885, 4665476, 4665934, 4668041, 4668638, 4671141, 4671621, 4673616, 4675238, 4675807, 4676775, 4677344, 4678826, 4679393, 4680875, 4681442, 4682924, 4683491, 4684974, 4685540, 4686511, 4687077, 4688048, 4688614, 4690097, 4690663, 4691634, 4692058, 4693687, 4694248, 4695225, 4695785, 4696762, 4697322, 4698299, 4698859, 4699836, 4700396, 4701373, 4701933, 4702910, 4703470, 4704447, 4705007, 4705984, 4706544, 4707525, 4708081, 4709063, 4709618, 4710600, 4711155, 4712137, 4712551, 4714189, 4714740, 4716238, 4716649, 4718288, 4718837, 4719825, 4720374, 4721362, 4721911, 4722899, 4723448, 4724436, 4724846, 4726485, 4727033, 4728023, 4728570, 4729560, 4729969, 4731611, 4732018, 4733660, 4734067, 4735709]
def m_nps : List Nat := [1, 2, 1, 3, 5, 4, 2, 3, 4, 1, 3, 1, 4, 2, 2, 2, 1, 2, 3, 1, 2, 3, 1, 1, 2, 2, 2, 3, 1, 1, 1, 3, 2, 2, 5, 3, 4, 3, 2, 4, 2, 3, 3, 1, 4, 1, 1, 1, 1, 1, 1, 1, 1, 1, 1, 1, 1, 1, 1, 1, 1, 2, 1, 2, 2, 2, 3, 2, 1, 1, 1, 2, 2, 4, 2, 1, 2, 1, 6, 2, 1, 2, 7, 4, 6, 3, 2, 3, 4, 3, 1, 3, 2, 2, 2, 2, 2, 2, 4, 3, 2, 2, 2, 1, 3, 1, 3, 3, 3, 3, 1, 3, 3, 1, 1, 2, 1, 2, 2, 2, 1, 2, 1, 1, 5, 1, 1, 3, 2, 3, 2, 3, 1, 1, 3, 3, 2, 6, 2, 1, 3, 1, 3, 1, 1, 6, 7, 1, 2, 2, 1, 1, 1, 1, 1, 1, 1, 1, 1, 1, 1, 1, 1, 2, 1, 2, 1, 2, 5, 2, 7, 4, 6, 2, 3, 2, 3, 4, 3, 1, 2, 3, 2, 1, 2, 3, 2, 2, 2, 2, 2, 2, 4, 2, 1, 1, 1, 3, 2, 2, 2, 2, 1, 3, 2, 1, 3, 1, 1, 3, 3, 3, 3, 1, 3, 3, 3, 5, 3, 1, 1, 2, 3, 3, 8, 5, 7, 4, 3, 4, 5, 4, 4, 3, 3, 3, 3, 3, 3, 5, 4, 3, 3, 3, 4, 4, 4, 4, 4, 4, 4, 2]
def m_ows : List Nat := [0, 0, 0, 0, 0, 0, 0, 0, 0, 1, 1, 1, 1, 1, 1, 1, 2, 2, 2, 2, 2, 2, 3, 3, 3, 3, 3, 3, 4, 4, 4, 4, 4, 4, 4, 4, 4, 4, 4, 4, 4, 4, 4, 5, 5, 5, 5, 5, 5, 5, 5, 5, 5, 5, 5, 5, 5, 5, 5, 5, 5, 5, 5, 5, 5, 5, 5, 5, 5, 5, 5, 5, 5, 5, 5, 6, 6, 7, 7, 7, 7, 7, 7, 7, 7, 7, 7, 7, 7, 7, 7, 7, 7, 7, 7, 7, 7, 7, 7, 7, 7, 7, 7, 7, 7, 7, 7, 7, 7, 7, 7, 7, 7, 7, 7, 7, 7, 7, 7, 7, 7, 7, 7, 7, 7, 7, 7, 7, 7, 7, 7, 7, 8, 8, 8, 8, 8, 8, 8, 8, 8, 8, 8, 8, 8, 8, 8, 8, 8, 8, 8, 8, 8, 8, 8, 8, 8, 8, 8, 8, 8, 8, 8, 8, 8, 8, 8, 8, 8, 8, 8, 8, 8, 8, 8, 8, 8, 8, 8, 8, 8, 8, 8, 8, 8, 8, 8, 8, 8, 8, 8, 8, 8, 8, 8, 8, 8, 8, 8, 8, 8, 8, 8, 8, 8, 8, 8, 8, 8, 8, 8, 8, 8, 8, 8, 8, 8, 8, 8, 8, 8, 8, 9, 9, 9, 9, 9, 9, 9, 9, 9, 9, 9, 9, 9, 9, 9, 9, 9, 9, 9, 9, 9, 9, 9, 9, 9, 9, 9, 9, 9, 9]
abbrev m_ifl (q : Nat × (Nat × (Nat × Nat))) : Prop := m_mem (m_fk q) m_flk = true ∧ q.2.1 < 1000 ∧ q.2.2.1 < 16 ∧ q.2.2.2 < 64
abbrev m_iml (q : Nat × (Nat × Nat)) : Prop := m_mem (m_mk q) m_mlk = true ∧ q.2.1 < 1000 ∧ q.2.2 < 512
set_option maxRecDepth 100000 in
theorem m_flk_ok : m_flk = m_fl.map m_fk ∧ (m_fl.all fun q => decide (q.2.1 < 1000 ∧ q.2.2.1 < 16 ∧ q.2.2.2 < 64)) = true := by decide +kernel
set_option maxRecDepth 100000 in
theorem m_mlk_ok : m_mlk = m_ml.map m_mk ∧ (m_ml.all fun q => decide (q.2.1 < 1000 ∧ q.2.2 < 512)) = true := by decide +kernel
theorem m_ifl_in {q : Nat × (Nat × (Nat × Nat))} (h : m_ifl q) : q ∈ m_fl := by
  obtain ⟨h1, h2, h3, h4⟩ := h
  have h5 := m_mem_in h1
  rw [m_flk_ok.1] at h5
  obtain ⟨x, hx, e⟩ := List.mem_map.mp h5
  have h6 := of_decide_eq_true (List.all_eq_true.mp m_flk_ok.2 x hx)
  obtain ⟨a, b, c, d⟩ := q
  obtain ⟨a', b', c', d'⟩ := x
  simp only [m_fk] at e h2 h3 h4 h6
  obtain ⟨g1, g2, g3⟩ := h6
  have e1 : a = a' ∧ b = b' ∧ c = c' ∧ d = d' := by omega
  obtain ⟨rfl, rfl, rfl, rfl⟩ := e1
  exact hx
theorem m_iml_in {q : Nat × (Nat × Nat)} (h : m_iml q) : q ∈ m_ml := by
  obtain ⟨h1, h2, h3⟩ := h
  have h5 := m_mem_in h1
  rw [m_mlk_ok.1] at h5
  obtain ⟨x, hx, e⟩ := List.mem_map.mp h5
  have h6 := of_decide_eq_true (List.all_eq_true.mp m_mlk_ok.2 x hx)
  obtain ⟨a, b, c⟩ := q
  obtain ⟨a', b', c'⟩ := x
  simp only [m_mk] at e h2 h3 h6
  obtain ⟨g1, g2⟩ := h6
  have e1 : a = a' ∧ b = b' ∧ c = c' := by omega
  obtain ⟨rfl, rfl, rfl⟩ := e1
  exact hx
