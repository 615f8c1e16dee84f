/-! EVERY METHOD (written by a program: wip/whole/gen_26.py), and the runs. -/
def m_ini (y : Nat) : Bool := m_mem y m_ins
abbrev m_gd (y : Nat) : Prop := m_good (m_ow y) (m_cd y) (m_mx y) (m_rt y) (m_ini y) (m_hh y) (m_md y)
theorem mg_0 : ∀ y, y < 12 → m_gd (0 + y)
  | 0, _ => g_X0_init
  | 1, _ => g_X0_setTo
  | 2, _ => g_X0_latestHolder
  | 3, _ => g_X0_hasPassed
  | 4, _ => g_X0_nameHand
  | 5, _ => g_X0_ask
  | 6, _ => g_X0_dropQuestion
  | 7, _ => g_X0_suppose
  | 8, _ => g_X0_tell
  | 9, _ => g_X1_init
  | 10, _ => g_X1_reckon
  | 11, _ => g_X1_clear
  | y + 12, h => absurd h (by omega)
theorem mg_1 : ∀ y, y < 12 → m_gd (12 + y)
  | 0, _ => g_X1_claimOn
  | 1, _ => g_X1_payUp
  | 2, _ => g_X1_payOwner
  | 3, _ => g_X1_titleFor
  | 4, _ => g_X2_init
  | 5, _ => g_X2_setTo
  | 6, _ => g_X2_add
  | 7, _ => g_X2_all
  | 8, _ => g_X2_allOf
  | 9, _ => g_X2_lostLast
  | 10, _ => g_X3_init
  | 11, _ => g_X3_clear
  | y + 12, h => absurd h (by omega)
theorem mg_2 : ∀ y, y < 12 → m_gd (24 + y)
  | 0, _ => g_X3_setTo
  | 1, _ => g_X3_entry
  | 2, _ => g_X3_hasFact
  | 3, _ => g_X3_tellFact
  | 4, _ => g_X4_init
  | 5, _ => g_X4_clear
  | 6, _ => g_X4_isFull
  | 7, _ => g_X4_beginClause
  | 8, _ => g_X4_include
  | 9, _ => g_X4_addStep
  | 10, _ => g_X4_holdsFor
  | 11, _ => g_X4_owedFor
  | y + 12, h => absurd h (by omega)
theorem mg_3 : ∀ y, y < 12 → m_gd (36 + y)
  | 0, _ => g_X4_claimFor
  | 1, _ => g_X4_allows
  | 2, _ => g_X4_doubles
  | 3, _ => g_X4_isFor
  | 4, _ => g_X4_has
  | 5, _ => g_X4_work
  | 6, _ => g_X4_join
  | 7, _ => g_X5_init
  | 8, _ => g_X5_readLaw
  | 9, _ => g_X5_readClause
  | 10, _ => g_X5_readMixing
  | 11, _ => g_X5_spare
  | y + 12, h => absurd h (by omega)
theorem mg_4 : ∀ y, y < 12 → m_gd (48 + y)
  | 0, _ => g_X5_readHarms
  | 1, _ => g_X5_readHarm
  | 2, _ => g_X5_readTerms
  | 3, _ => g_X5_readTerm
  | 4, _ => g_X5_readEither
  | 5, _ => g_X5_readBoth
  | 6, _ => g_X5_readCondition
  | 7, _ => g_X5_readNot
  | 8, _ => g_X5_takeComparison
  | 9, _ => g_X5_readSum
  | 10, _ => g_X5_readProduct
  | 11, _ => g_X5_readUnit
  | y + 12, h => absurd h (by omega)
theorem mg_5 : ∀ y, y < 12 → m_gd (60 + y)
  | 0, _ => g_X5_readNumber
  | 1, _ => g_X5_readChoice
  | 2, _ => g_X5_enter
  | 3, _ => g_X5_leave
  | 4, _ => g_X5_take
  | 5, _ => g_X5_takeWord
  | 6, _ => g_X5_isNumber
  | 7, _ => g_X5_fail
  | 8, _ => g_X5_nextToken
  | 9, _ => g_X5_isLetter
  | 10, _ => g_X5_isDigit
  | 11, _ => g_X5_isWord
  | y + 12, h => absurd h (by omega)
theorem mg_6 : ∀ y, y < 12 → m_gd (72 + y)
  | 0, _ => g_X5_wordOf
  | 1, _ => g_X5_isSame
  | 2, _ => g_X5_bitsOf
  | 3, _ => g_X6_init
  | 4, _ => g_X6_setTo
  | 5, _ => g_X7_init
  | 6, _ => g_X7_feed
  | 7, _ => g_X7_law
  | 8, _ => g_X7_fault
  | 9, _ => g_X7_force
  | 10, _ => g_X7_words
  | 11, _ => g_X7_lets
  | y + 12, h => absurd h (by omega)
theorem mg_7 : ∀ y, y < 12 → m_gd (84 + y)
  | 0, _ => g_X7_pass
  | 1, _ => g_X7_hand
  | 2, _ => g_X7_value
  | 3, _ => g_X7_purse
  | 4, _ => g_X7_fact
  | 5, _ => g_X7_harm
  | 6, _ => g_X7_holder
  | 7, _ => g_X7_name
  | 8, _ => g_X7_claim
  | 9, _ => g_X7_whom
  | 10, _ => g_X7_pays
  | 11, _ => g_X7_bears
  | y + 12, h => absurd h (by omega)
theorem mg_8 : ∀ y, y < 12 → m_gd (96 + y)
  | 0, _ => g_X7_must
  | 1, _ => g_X7_frees
  | 2, _ => g_X7_question
  | 3, _ => g_X7_inCase
  | 4, _ => g_X7_sure
  | 5, _ => g_X7_cases
  | 6, _ => g_X7_hangs
  | 7, _ => g_X7_least
  | 8, _ => g_X7_find
  | 9, _ => g_X7_title
  | 10, _ => g_X7_found
  | 11, _ => g_X7_put
  | y + 12, h => absurd h (by omega)
theorem mg_9 : ∀ y, y < 12 → m_gd (108 + y)
  | 0, _ => g_X7_share
  | 1, _ => g_X7_judge
  | 2, _ => g_X7_wrong
  | 3, _ => g_X7_parting
  | 4, _ => g_X7_beside
  | 5, _ => g_X7_image
  | 6, _ => g_X7_restore
  | 7, _ => g_X7_count
  | 8, _ => g_X7_need
  | 9, _ => g_X7_needHand
  | 10, _ => g_X7_isWithin
  | 11, _ => g_X7_isLaw
  | y + 12, h => absurd h (by omega)
theorem mg_10 : ∀ y, y < 12 → m_gd (120 + y)
  | 0, _ => g_X7_lawInForce
  | 1, _ => g_X7_layOnTape
  | 2, _ => g_X7_keepingOfCase
  | 3, _ => g_X7_harmOfCase
  | 4, _ => g_X7_nameCase
  | 5, _ => g_X7_allCases
  | 6, _ => g_X7_reckonCases
  | 7, _ => g_X7_isBurdened
  | 8, _ => g_X7_burdenedCases
  | 9, _ => g_X7_casesLikeBit
  | 10, _ => g_X7_matters
  | 11, _ => g_X7_areBorneAlike
  | y + 12, h => absurd h (by omega)
theorem mg_11 : ∀ y, y < 12 → m_gd (132 + y)
  | 0, _ => g_X8_init
  | 1, _ => g_X8_thrown
  | 2, _ => g_X8_bad
  | 3, _ => g_X8_in
  | 4, _ => g_X8_less
  | 5, _ => g_X8_feed
  | 6, _ => g_X8_byteAt
  | 7, _ => g_X8_blanks
  | 8, _ => g_X8_wrongAt
  | 9, _ => g_X8_isDigit
  | 10, _ => g_X8_number
  | 11, _ => g_X8_wordHere
  | y + 12, h => absurd h (by omega)
theorem mg_12 : ∀ y, y < 12 → m_gd (144 + y)
  | 0, _ => g_X8_isAnswers
  | 1, _ => g_X8_word
  | 2, _ => g_X8_isWord
  | 3, _ => g_X8_skipWord
  | 4, _ => g_X8_sign
  | 5, _ => g_X8_opens
  | 6, _ => g_X8_nameHere
  | 7, _ => g_X8_unit
  | 8, _ => g_X8_product
  | 9, _ => g_X8_sum
  | 10, _ => g_X8_test
  | 11, _ => g_X8_ands
  | y + 12, h => absurd h (by omega)
theorem mg_13 : ∀ y, y < 12 → m_gd (156 + y)
  | 0, _ => g_X8_ors
  | 1, _ => g_X8_keepingHere
  | 2, _ => g_X8_harmHere
  | 3, _ => g_X8_harms
  | 4, _ => g_X8_terms
  | 5, _ => g_X8_clause
  | 6, _ => g_X8_mixes
  | 7, _ => g_X8_says
  | 8, _ => g_X8_walks
  | 9, _ => g_X8_law
  | 10, _ => g_X8_fault
  | 11, _ => g_X8_force
  | y + 12, h => absurd h (by omega)
theorem mg_14 : ∀ y, y < 12 → m_gd (168 + y)
  | 0, _ => g_X8_asks
  | 1, _ => g_X8_tellsBits
  | 2, _ => g_X8_words
  | 3, _ => g_X8_lets
  | 4, _ => g_X8_pass
  | 5, _ => g_X8_isHand
  | 6, _ => g_X8_hand
  | 7, _ => g_X8_value
  | 8, _ => g_X8_purse
  | 9, _ => g_X8_fact
  | 10, _ => g_X8_harm
  | 11, _ => g_X8_findHolder
  | y + 12, h => absurd h (by omega)
theorem mg_15 : ∀ y, y < 12 → m_gd (180 + y)
  | 0, _ => g_X8_hasPassed
  | 1, _ => g_X8_tellsNames
  | 2, _ => g_X8_ends
  | 3, _ => g_X8_holder
  | 4, _ => g_X8_isWithin
  | 5, _ => g_X8_name
  | 6, _ => g_X8_claim
  | 7, _ => g_X8_whom
  | 8, _ => g_X8_pays
  | 9, _ => g_X8_bears
  | 10, _ => g_X8_must
  | 11, _ => g_X8_frees
  | y + 12, h => absurd h (by omega)
theorem mg_16 : ∀ y, y < 12 → m_gd (192 + y)
  | 0, _ => g_X8_question
  | 1, _ => g_X8_goesInto
  | 2, _ => g_X8_comesBack
  | 3, _ => g_X8_caseMany
  | 4, _ => g_X8_findCases
  | 5, _ => g_X8_inCase
  | 6, _ => g_X8_casesOf
  | 7, _ => g_X8_sure
  | 8, _ => g_X8_cases
  | 9, _ => g_X8_hangs
  | 10, _ => g_X8_ones
  | 11, _ => g_X8_areAlike
  | y + 12, h => absurd h (by omega)
theorem mg_17 : ∀ y, y < 12 → m_gd (204 + y)
  | 0, _ => g_X8_settles
  | 1, _ => g_X8_least
  | 2, _ => g_X8_find
  | 3, _ => g_X8_titleNow
  | 4, _ => g_X8_title
  | 5, _ => g_X8_found
  | 6, _ => g_X8_put
  | 7, _ => g_X8_share
  | 8, _ => g_X8_judge
  | 9, _ => g_X8_wrong
  | 10, _ => g_X8_claimIn
  | 11, _ => g_X8_parting
  | y + 12, h => absurd h (by omega)
theorem mg_18 : ∀ y, y < 12 → m_gd (216 + y)
  | 0, _ => g_X8_beside
  | 1, _ => g_X8_moves
  | 2, _ => g_X8_movesAll
  | 3, _ => g_X8_image
  | 4, _ => g_X8_restore
  | 5, _ => g_X8_count
  | 6, _ => g_L_law
  | 7, _ => g_L_force
  | 8, _ => g_L_words
  | 9, _ => g_L_lets
  | 10, _ => g_L_pass
  | 11, _ => g_L_hand
  | y + 12, h => absurd h (by omega)
theorem mg_19 : ∀ y, y < 12 → m_gd (228 + y)
  | 0, _ => g_L_value
  | 1, _ => g_L_purse
  | 2, _ => g_L_fact
  | 3, _ => g_L_harm
  | 4, _ => g_L_name
  | 5, _ => g_L_claim
  | 6, _ => g_L_whom
  | 7, _ => g_L_pays
  | 8, _ => g_L_bears
  | 9, _ => g_L_must
  | 10, _ => g_L_frees
  | 11, _ => g_L_question
  | y + 12, h => absurd h (by omega)
theorem mg_20 : ∀ y, y < 12 → m_gd (240 + y)
  | 0, _ => g_L_inCase
  | 1, _ => g_L_sure
  | 2, _ => g_L_cases
  | 3, _ => g_L_hangs
  | 4, _ => g_L_find
  | 5, _ => g_L_found
  | 6, _ => g_L_put
  | 7, _ => g_L_share
  | 8, _ => g_L_judge
  | 9, _ => g_L_parting
  | 10, _ => g_L_beside
  | 11, _ => g_L_law_
  | y + 12, h => absurd h (by omega)
theorem mk_0 : ∀ y, y < 12 → m_cw (0 + y) ∈ m_ws
  | 0, _ => k_X0_init
  | 1, _ => k_X0_setTo
  | 2, _ => k_X0_latestHolder
  | 3, _ => k_X0_hasPassed
  | 4, _ => k_X0_nameHand
  | 5, _ => k_X0_ask
  | 6, _ => k_X0_dropQuestion
  | 7, _ => k_X0_suppose
  | 8, _ => k_X0_tell
  | 9, _ => k_X1_init
  | 10, _ => k_X1_reckon
  | 11, _ => k_X1_clear
  | y + 12, h => absurd h (by omega)
theorem mk_1 : ∀ y, y < 12 → m_cw (12 + y) ∈ m_ws
  | 0, _ => k_X1_claimOn
  | 1, _ => k_X1_payUp
  | 2, _ => k_X1_payOwner
  | 3, _ => k_X1_titleFor
  | 4, _ => k_X2_init
  | 5, _ => k_X2_setTo
  | 6, _ => k_X2_add
  | 7, _ => k_X2_all
  | 8, _ => k_X2_allOf
  | 9, _ => k_X2_lostLast
  | 10, _ => k_X3_init
  | 11, _ => k_X3_clear
  | y + 12, h => absurd h (by omega)
theorem mk_2 : ∀ y, y < 12 → m_cw (24 + y) ∈ m_ws
  | 0, _ => k_X3_setTo
  | 1, _ => k_X3_entry
  | 2, _ => k_X3_hasFact
  | 3, _ => k_X3_tellFact
  | 4, _ => k_X4_init
  | 5, _ => k_X4_clear
  | 6, _ => k_X4_isFull
  | 7, _ => k_X4_beginClause
  | 8, _ => k_X4_include
  | 9, _ => k_X4_addStep
  | 10, _ => k_X4_holdsFor
  | 11, _ => k_X4_owedFor
  | y + 12, h => absurd h (by omega)
theorem mk_3 : ∀ y, y < 12 → m_cw (36 + y) ∈ m_ws
  | 0, _ => k_X4_claimFor
  | 1, _ => k_X4_allows
  | 2, _ => k_X4_doubles
  | 3, _ => k_X4_isFor
  | 4, _ => k_X4_has
  | 5, _ => k_X4_work
  | 6, _ => k_X4_join
  | 7, _ => k_X5_init
  | 8, _ => k_X5_readLaw
  | 9, _ => k_X5_readClause
  | 10, _ => k_X5_readMixing
  | 11, _ => k_X5_spare
  | y + 12, h => absurd h (by omega)
theorem mk_4 : ∀ y, y < 12 → m_cw (48 + y) ∈ m_ws
  | 0, _ => k_X5_readHarms
  | 1, _ => k_X5_readHarm
  | 2, _ => k_X5_readTerms
  | 3, _ => k_X5_readTerm
  | 4, _ => k_X5_readEither
  | 5, _ => k_X5_readBoth
  | 6, _ => k_X5_readCondition
  | 7, _ => k_X5_readNot
  | 8, _ => k_X5_takeComparison
  | 9, _ => k_X5_readSum
  | 10, _ => k_X5_readProduct
  | 11, _ => k_X5_readUnit
  | y + 12, h => absurd h (by omega)
theorem mk_5 : ∀ y, y < 12 → m_cw (60 + y) ∈ m_ws
  | 0, _ => k_X5_readNumber
  | 1, _ => k_X5_readChoice
  | 2, _ => k_X5_enter
  | 3, _ => k_X5_leave
  | 4, _ => k_X5_take
  | 5, _ => k_X5_takeWord
  | 6, _ => k_X5_isNumber
  | 7, _ => k_X5_fail
  | 8, _ => k_X5_nextToken
  | 9, _ => k_X5_isLetter
  | 10, _ => k_X5_isDigit
  | 11, _ => k_X5_isWord
  | y + 12, h => absurd h (by omega)
theorem mk_6 : ∀ y, y < 12 → m_cw (72 + y) ∈ m_ws
  | 0, _ => k_X5_wordOf
  | 1, _ => k_X5_isSame
  | 2, _ => k_X5_bitsOf
  | 3, _ => k_X6_init
  | 4, _ => k_X6_setTo
  | 5, _ => k_X7_init
  | 6, _ => k_X7_feed
  | 7, _ => k_X7_law
  | 8, _ => k_X7_fault
  | 9, _ => k_X7_force
  | 10, _ => k_X7_words
  | 11, _ => k_X7_lets
  | y + 12, h => absurd h (by omega)
theorem mk_7 : ∀ y, y < 12 → m_cw (84 + y) ∈ m_ws
  | 0, _ => k_X7_pass
  | 1, _ => k_X7_hand
  | 2, _ => k_X7_value
  | 3, _ => k_X7_purse
  | 4, _ => k_X7_fact
  | 5, _ => k_X7_harm
  | 6, _ => k_X7_holder
  | 7, _ => k_X7_name
  | 8, _ => k_X7_claim
  | 9, _ => k_X7_whom
  | 10, _ => k_X7_pays
  | 11, _ => k_X7_bears
  | y + 12, h => absurd h (by omega)
theorem mk_8 : ∀ y, y < 12 → m_cw (96 + y) ∈ m_ws
  | 0, _ => k_X7_must
  | 1, _ => k_X7_frees
  | 2, _ => k_X7_question
  | 3, _ => k_X7_inCase
  | 4, _ => k_X7_sure
  | 5, _ => k_X7_cases
  | 6, _ => k_X7_hangs
  | 7, _ => k_X7_least
  | 8, _ => k_X7_find
  | 9, _ => k_X7_title
  | 10, _ => k_X7_found
  | 11, _ => k_X7_put
  | y + 12, h => absurd h (by omega)
theorem mk_9 : ∀ y, y < 12 → m_cw (108 + y) ∈ m_ws
  | 0, _ => k_X7_share
  | 1, _ => k_X7_judge
  | 2, _ => k_X7_wrong
  | 3, _ => k_X7_parting
  | 4, _ => k_X7_beside
  | 5, _ => k_X7_image
  | 6, _ => k_X7_restore
  | 7, _ => k_X7_count
  | 8, _ => k_X7_need
  | 9, _ => k_X7_needHand
  | 10, _ => k_X7_isWithin
  | 11, _ => k_X7_isLaw
  | y + 12, h => absurd h (by omega)
theorem mk_10 : ∀ y, y < 12 → m_cw (120 + y) ∈ m_ws
  | 0, _ => k_X7_lawInForce
  | 1, _ => k_X7_layOnTape
  | 2, _ => k_X7_keepingOfCase
  | 3, _ => k_X7_harmOfCase
  | 4, _ => k_X7_nameCase
  | 5, _ => k_X7_allCases
  | 6, _ => k_X7_reckonCases
  | 7, _ => k_X7_isBurdened
  | 8, _ => k_X7_burdenedCases
  | 9, _ => k_X7_casesLikeBit
  | 10, _ => k_X7_matters
  | 11, _ => k_X7_areBorneAlike
  | y + 12, h => absurd h (by omega)
theorem mk_11 : ∀ y, y < 12 → m_cw (132 + y) ∈ m_ws
  | 0, _ => k_X8_init
  | 1, _ => k_X8_thrown
  | 2, _ => k_X8_bad
  | 3, _ => k_X8_in
  | 4, _ => k_X8_less
  | 5, _ => k_X8_feed
  | 6, _ => k_X8_byteAt
  | 7, _ => k_X8_blanks
  | 8, _ => k_X8_wrongAt
  | 9, _ => k_X8_isDigit
  | 10, _ => k_X8_number
  | 11, _ => k_X8_wordHere
  | y + 12, h => absurd h (by omega)
theorem mk_12 : ∀ y, y < 12 → m_cw (144 + y) ∈ m_ws
  | 0, _ => k_X8_isAnswers
  | 1, _ => k_X8_word
  | 2, _ => k_X8_isWord
  | 3, _ => k_X8_skipWord
  | 4, _ => k_X8_sign
  | 5, _ => k_X8_opens
  | 6, _ => k_X8_nameHere
  | 7, _ => k_X8_unit
  | 8, _ => k_X8_product
  | 9, _ => k_X8_sum
  | 10, _ => k_X8_test
  | 11, _ => k_X8_ands
  | y + 12, h => absurd h (by omega)
theorem mk_13 : ∀ y, y < 12 → m_cw (156 + y) ∈ m_ws
  | 0, _ => k_X8_ors
  | 1, _ => k_X8_keepingHere
  | 2, _ => k_X8_harmHere
  | 3, _ => k_X8_harms
  | 4, _ => k_X8_terms
  | 5, _ => k_X8_clause
  | 6, _ => k_X8_mixes
  | 7, _ => k_X8_says
  | 8, _ => k_X8_walks
  | 9, _ => k_X8_law
  | 10, _ => k_X8_fault
  | 11, _ => k_X8_force
  | y + 12, h => absurd h (by omega)
theorem mk_14 : ∀ y, y < 12 → m_cw (168 + y) ∈ m_ws
  | 0, _ => k_X8_asks
  | 1, _ => k_X8_tellsBits
  | 2, _ => k_X8_words
  | 3, _ => k_X8_lets
  | 4, _ => k_X8_pass
  | 5, _ => k_X8_isHand
  | 6, _ => k_X8_hand
  | 7, _ => k_X8_value
  | 8, _ => k_X8_purse
  | 9, _ => k_X8_fact
  | 10, _ => k_X8_harm
  | 11, _ => k_X8_findHolder
  | y + 12, h => absurd h (by omega)
theorem mk_15 : ∀ y, y < 12 → m_cw (180 + y) ∈ m_ws
  | 0, _ => k_X8_hasPassed
  | 1, _ => k_X8_tellsNames
  | 2, _ => k_X8_ends
  | 3, _ => k_X8_holder
  | 4, _ => k_X8_isWithin
  | 5, _ => k_X8_name
  | 6, _ => k_X8_claim
  | 7, _ => k_X8_whom
  | 8, _ => k_X8_pays
  | 9, _ => k_X8_bears
  | 10, _ => k_X8_must
  | 11, _ => k_X8_frees
  | y + 12, h => absurd h (by omega)
theorem mk_16 : ∀ y, y < 12 → m_cw (192 + y) ∈ m_ws
  | 0, _ => k_X8_question
  | 1, _ => k_X8_goesInto
  | 2, _ => k_X8_comesBack
  | 3, _ => k_X8_caseMany
  | 4, _ => k_X8_findCases
  | 5, _ => k_X8_inCase
  | 6, _ => k_X8_casesOf
  | 7, _ => k_X8_sure
  | 8, _ => k_X8_cases
  | 9, _ => k_X8_hangs
  | 10, _ => k_X8_ones
  | 11, _ => k_X8_areAlike
  | y + 12, h => absurd h (by omega)
theorem mk_17 : ∀ y, y < 12 → m_cw (204 + y) ∈ m_ws
  | 0, _ => k_X8_settles
  | 1, _ => k_X8_least
  | 2, _ => k_X8_find
  | 3, _ => k_X8_titleNow
  | 4, _ => k_X8_title
  | 5, _ => k_X8_found
  | 6, _ => k_X8_put
  | 7, _ => k_X8_share
  | 8, _ => k_X8_judge
  | 9, _ => k_X8_wrong
  | 10, _ => k_X8_claimIn
  | 11, _ => k_X8_parting
  | y + 12, h => absurd h (by omega)
theorem mk_18 : ∀ y, y < 12 → m_cw (216 + y) ∈ m_ws
  | 0, _ => k_X8_beside
  | 1, _ => k_X8_moves
  | 2, _ => k_X8_movesAll
  | 3, _ => k_X8_image
  | 4, _ => k_X8_restore
  | 5, _ => k_X8_count
  | 6, _ => k_L_law
  | 7, _ => k_L_force
  | 8, _ => k_L_words
  | 9, _ => k_L_lets
  | 10, _ => k_L_pass
  | 11, _ => k_L_hand
  | y + 12, h => absurd h (by omega)
theorem mk_19 : ∀ y, y < 12 → m_cw (228 + y) ∈ m_ws
  | 0, _ => k_L_value
  | 1, _ => k_L_purse
  | 2, _ => k_L_fact
  | 3, _ => k_L_harm
  | 4, _ => k_L_name
  | 5, _ => k_L_claim
  | 6, _ => k_L_whom
  | 7, _ => k_L_pays
  | 8, _ => k_L_bears
  | 9, _ => k_L_must
  | 10, _ => k_L_frees
  | 11, _ => k_L_question
  | y + 12, h => absurd h (by omega)
theorem mk_20 : ∀ y, y < 11 → m_cw (240 + y) ∈ m_ws
  | 0, _ => k_L_inCase
  | 1, _ => k_L_sure
  | 2, _ => k_L_cases
  | 3, _ => k_L_hangs
  | 4, _ => k_L_find
  | 5, _ => k_L_found
  | 6, _ => k_L_put
  | 7, _ => k_L_share
  | 8, _ => k_L_judge
  | 9, _ => k_L_parting
  | 10, _ => k_L_beside
  | y + 11, h => absurd h (by omega)
theorem mg_all {y : Nat} (h : y < 252) : m_gd y := by
  by_cases h0 : y < 12
  · have := mg_0 (y - 0) (by omega)
    rwa [show 0 + (y - 0) = y by omega] at this
  by_cases h1 : y < 24
  · have := mg_1 (y - 12) (by omega)
    rwa [show 12 + (y - 12) = y by omega] at this
  by_cases h2 : y < 36
  · have := mg_2 (y - 24) (by omega)
    rwa [show 24 + (y - 24) = y by omega] at this
  by_cases h3 : y < 48
  · have := mg_3 (y - 36) (by omega)
    rwa [show 36 + (y - 36) = y by omega] at this
  by_cases h4 : y < 60
  · have := mg_4 (y - 48) (by omega)
    rwa [show 48 + (y - 48) = y by omega] at this
  by_cases h5 : y < 72
  · have := mg_5 (y - 60) (by omega)
    rwa [show 60 + (y - 60) = y by omega] at this
  by_cases h6 : y < 84
  · have := mg_6 (y - 72) (by omega)
    rwa [show 72 + (y - 72) = y by omega] at this
  by_cases h7 : y < 96
  · have := mg_7 (y - 84) (by omega)
    rwa [show 84 + (y - 84) = y by omega] at this
  by_cases h8 : y < 108
  · have := mg_8 (y - 96) (by omega)
    rwa [show 96 + (y - 96) = y by omega] at this
  by_cases h9 : y < 120
  · have := mg_9 (y - 108) (by omega)
    rwa [show 108 + (y - 108) = y by omega] at this
  by_cases h10 : y < 132
  · have := mg_10 (y - 120) (by omega)
    rwa [show 120 + (y - 120) = y by omega] at this
  by_cases h11 : y < 144
  · have := mg_11 (y - 132) (by omega)
    rwa [show 132 + (y - 132) = y by omega] at this
  by_cases h12 : y < 156
  · have := mg_12 (y - 144) (by omega)
    rwa [show 144 + (y - 144) = y by omega] at this
  by_cases h13 : y < 168
  · have := mg_13 (y - 156) (by omega)
    rwa [show 156 + (y - 156) = y by omega] at this
  by_cases h14 : y < 180
  · have := mg_14 (y - 168) (by omega)
    rwa [show 168 + (y - 168) = y by omega] at this
  by_cases h15 : y < 192
  · have := mg_15 (y - 180) (by omega)
    rwa [show 180 + (y - 180) = y by omega] at this
  by_cases h16 : y < 204
  · have := mg_16 (y - 192) (by omega)
    rwa [show 192 + (y - 192) = y by omega] at this
  by_cases h17 : y < 216
  · have := mg_17 (y - 204) (by omega)
    rwa [show 204 + (y - 204) = y by omega] at this
  by_cases h18 : y < 228
  · have := mg_18 (y - 216) (by omega)
    rwa [show 216 + (y - 216) = y by omega] at this
  by_cases h19 : y < 240
  · have := mg_19 (y - 228) (by omega)
    rwa [show 228 + (y - 228) = y by omega] at this
  by_cases h20 : y < 252
  · have := mg_20 (y - 240) (by omega)
    rwa [show 240 + (y - 240) = y by omega] at this
  omega
theorem mk_all {y : Nat} (h : y < 251) : m_cw y ∈ m_ws := by
  by_cases h0 : y < 12
  · have := mk_0 (y - 0) (by omega)
    rwa [show 0 + (y - 0) = y by omega] at this
  by_cases h1 : y < 24
  · have := mk_1 (y - 12) (by omega)
    rwa [show 12 + (y - 12) = y by omega] at this
  by_cases h2 : y < 36
  · have := mk_2 (y - 24) (by omega)
    rwa [show 24 + (y - 24) = y by omega] at this
  by_cases h3 : y < 48
  · have := mk_3 (y - 36) (by omega)
    rwa [show 36 + (y - 36) = y by omega] at this
  by_cases h4 : y < 60
  · have := mk_4 (y - 48) (by omega)
    rwa [show 48 + (y - 48) = y by omega] at this
  by_cases h5 : y < 72
  · have := mk_5 (y - 60) (by omega)
    rwa [show 60 + (y - 60) = y by omega] at this
  by_cases h6 : y < 84
  · have := mk_6 (y - 72) (by omega)
    rwa [show 72 + (y - 72) = y by omega] at this
  by_cases h7 : y < 96
  · have := mk_7 (y - 84) (by omega)
    rwa [show 84 + (y - 84) = y by omega] at this
  by_cases h8 : y < 108
  · have := mk_8 (y - 96) (by omega)
    rwa [show 96 + (y - 96) = y by omega] at this
  by_cases h9 : y < 120
  · have := mk_9 (y - 108) (by omega)
    rwa [show 108 + (y - 108) = y by omega] at this
  by_cases h10 : y < 132
  · have := mk_10 (y - 120) (by omega)
    rwa [show 120 + (y - 120) = y by omega] at this
  by_cases h11 : y < 144
  · have := mk_11 (y - 132) (by omega)
    rwa [show 132 + (y - 132) = y by omega] at this
  by_cases h12 : y < 156
  · have := mk_12 (y - 144) (by omega)
    rwa [show 144 + (y - 144) = y by omega] at this
  by_cases h13 : y < 168
  · have := mk_13 (y - 156) (by omega)
    rwa [show 156 + (y - 156) = y by omega] at this
  by_cases h14 : y < 180
  · have := mk_14 (y - 168) (by omega)
    rwa [show 168 + (y - 168) = y by omega] at this
  by_cases h15 : y < 192
  · have := mk_15 (y - 180) (by omega)
    rwa [show 180 + (y - 180) = y by omega] at this
  by_cases h16 : y < 204
  · have := mk_16 (y - 192) (by omega)
    rwa [show 192 + (y - 192) = y by omega] at this
  by_cases h17 : y < 216
  · have := mk_17 (y - 204) (by omega)
    rwa [show 204 + (y - 204) = y by omega] at this
  by_cases h18 : y < 228
  · have := mk_18 (y - 216) (by omega)
    rwa [show 216 + (y - 216) = y by omega] at this
  by_cases h19 : y < 240
  · have := mk_19 (y - 228) (by omega)
    rwa [show 228 + (y - 228) = y by omega] at this
  by_cases h20 : y < 251
  · have := mk_20 (y - 240) (by omega)
    rwa [show 240 + (y - 240) = y by omega] at this
  omega
set_option maxRecDepth 100000 in
theorem mf_all0 : ((List.range 252).all fun y => decide ((m_y y).cls = m_cn (m_ow y) ∧ m_ow y < 10 ∧ m_mx y ≤ 21 ∧ (m_hh y = [] ∨ m_rt y = some .int) ∧ (m_hh y = [] ∨ m_ow y = 9) ∧ (y = 251 ∨ ¬ (m_ow y = 9 ∧ m_rt y = some .boolean))) && (m_ini y == decide ((m_y y).name = "<init>")) && (m_hh y).all fun q => match decode (m_cd y) q.2.2.1 with
  | .ok (.astore k, _) => decide (k < m_mx y)
  | .ok (.astore_n k, _) => decide (k.val < m_mx y)
  | _ => true) = true := by decide +kernel
theorem mf_cls0 : ((List.range 10).all fun c => decide (Cond.initialized (m_cn c) ∈ lw_tbl) && goodWord (Cond.initialized (m_cn c))) = true := by decide +kernel
theorem mf_all {y : Nat} (h : y < 252) : ((m_y y).cls = m_cn (m_ow y) ∧ m_ow y < 10 ∧ m_mx y ≤ 21 ∧ (m_hh y = [] ∨ m_ow y = 9) ∧ (y = 251 ∨ ¬ (m_ow y = 9 ∧ m_rt y = some .boolean))) ∧ (m_ini y = true → (m_y y).name = "<init>") ∧ j_HH (m_ow y) (m_cd y) (m_mx y) (m_rt y) (m_hh y) (m_md y).2.1 := by
  have h1 := List.all_eq_true.mp mf_all0 y (List.mem_range.mpr h)
  simp only [Bool.and_eq_true, decide_eq_true_eq, beq_iff_eq] at h1
  obtain ⟨⟨⟨h2, h3, h4, h5, h5', h5''⟩, h6⟩, h7⟩ := h1
  obtain ⟨g1, g2, g3, g4, g5⟩ := mg_all h
  refine ⟨⟨h2, h3, h4, h5', h5''⟩, fun e => ?_, h5, g3, g4, fun q hq k hk => ?_, fun q hq k hk => ?_⟩
  · rw [h6] at e
    exact of_decide_eq_true e
  · have h8 := List.all_eq_true.mp h7 q hq
    rw [hk] at h8
    exact of_decide_eq_true h8
  · have h8 := List.all_eq_true.mp h7 q hq
    rw [hk] at h8
    exact of_decide_eq_true h8
theorem my_all {y : Nat} (h : y < 251) : j_y y := by
  obtain ⟨⟨h1, h2, h3, -⟩, -⟩ := mf_all (y := y) (by omega)
  have h4 := List.all_eq_true.mp mf_cls0 (m_ow y) (List.mem_range.mpr h2)
  simp only [Bool.and_eq_true, decide_eq_true_eq] at h4
  exact ⟨mk_all h, h1, h2, by rw [h1]; exact List.mem_filter.mpr h4, h3⟩
section JR
variable {p : Program} {l : Launch} {e : Env} {R : Room} {s : State} {mid : MethodId} {args : Array Value} {below : List Frame} {meth : Method} {c : Code}
variable {G : j_G} {nL c0 s0 i own d : Nat} {cd : ByteArray} {rt : Option FieldType} {ini : Bool} {hh : List (Nat × Nat × Nat × Nat)} {hs : List (Nat × (Nat × (Nat × Int32)))} {L : List (Nat × m_I)} {ls : m_L} {st : List Value} {M : m_M} {r : m_R} {z : m_N} {cb : m_B}
theorem p_all (T : j_T p l R s mid args meth c G own cd nL rt ini hh c0 s0 d r) (HH : j_HH own cd nL rt hh hs) {q : Nat × m_I} (hq : L[i]? = some q) (hk : m_lk own cd nL rt ini L q.1 i q.2 = true)
    (hcb : ∀ a, a < 251 → ∀ (As : List Value) (M : m_M) (r1 : m_R), (∀ v ∈ As, m_cat1 v = true) → cb a As M = some r1 → m_le M r1.2 ∧ ∃ d' : Nat, d = d' + 1 ∧ j_y a ∧ j_Met l G d' a As M r1)
    (h : m_sem G.2.2.2.2 m_text m_born9 hs d cb q.1 i q.2 ls st M = some z) (Z : j_Z p l e R s mid args below meth c G nL c0 s0 L r z) : j_P p l e R s mid args below meth c (j_Q below args s G r) G nL c0 s0 L i ls st M := by
  have hpc : m_pc L i = q.1 := by unfold m_pc; rw [hq]
  rw [← hpc] at hk h
  obtain ⟨pc, o, a, b, n, t⟩ := q
  simp only at hk h
  match o, hk, h with
  | 0, hk, h => exact p_const T hk h Z
  | 1, hk, h => exact p_iload T hk h Z
  | 2, hk, h => exact p_aload T hk h Z
  | 3, hk, h => exact p_istore T hk h Z
  | 4, hk, h => exact p_astore T hk h Z
  | 5, hk, h => exact p_iinc T hk h Z
  | 6, hk, h => exact p_getf T hk h Z
  | 7, hk, h => exact p_putf T hk h Z
  | 8, hk, h => exact p_iald T hk h Z
  | 9, hk, h => exact p_iast T hk h Z
  | 10, hk, h => exact p_bald T hk h Z
  | 11, hk, h => exact p_bast T hk h Z
  | 12, hk, h => exact p_aald T hk h Z
  | 13, hk, h => exact p_aast T hk h Z
  | 14, hk, h => exact p_lald T hk h Z
  | 15, hk, h => exact p_last T hk h Z
  | 16, hk, h => exact p_alen T hk h Z
  | 17, hk, h => exact p_bin T hk h Z
  | 18, hk, h => exact p_if T hk h Z
  | 19, hk, h => exact p_cmp T hk h Z
  | 20, hk, h => exact p_goto T hk h Z
  | 21, hk, h => exact p_switch T hk h Z
  | 22, hk, h => exact p_dup T hk h Z
  | 23, hk, h => exact p_dup2 T hk h Z
  | 24, hk, h => exact p_i2l T hk h Z
  | 25, hk, h => exact p_lconst T hk h Z
  | 26, hk, h => exact p_lcmp T hk h Z
  | 27, hk, h => exact p_iret T hk h Z
  | 28, hk, h => exact p_aret T hk h Z
  | 29, hk, h => exact p_ret T hk h Z
  | 30, hk, h => exact p_call T HH hk (hcb a) h Z
  | 31, hk, h => exact p_min T hk h Z
  | 32, hk, h => exact p_max T hk h Z
  | 33, hk, h => exact p_copy T hk h Z
  | 34, hk, h => exact p_slen T hk h Z
  | 35, hk, h => exact p_char T hk h Z
  | 36, hk, h => exact p_throw T hk h Z
  | 37, hk, h => exact p_new T hk h Z
  | 38, hk, h => exact p_newa T hk h Z
  | 39, hk, h => exact p_newg T hk h Z
  | 40, hk, h => exact p_pop T hk h Z
  | 41, hk, h => exact p_ldc T hk h Z
  | k + 42, hk, h => cases h
theorem j_lv_cat1 {v : Value} (h : m_cat1 v = true) : j_lv G v = j_v G v := by
  cases v <;> first | rfl | (simp [m_cat1] at h)
theorem j_args_mem : ∀ (As : List Value) (k j : Nat) (v : Value), (∀ v ∈ As, m_cat1 v = true) → As[j]? = some v → (k + j, j_v G v) ∈ lv_args k (As.map (j_v G))
  | [], k, j, v, _, h => by simp at h
  | x :: As, k, 0, v, hc, h => by
    simp only [List.getElem?_cons_zero, Option.some.injEq] at h
    subst h
    exact List.mem_cons_self
  | x :: As, k, j + 1, v, hc, h => by
    rw [List.getElem?_cons_succ] at h
    have h1 := j_args_mem As (k + 1) j v (fun v hv => hc v (List.mem_cons_of_mem _ hv)) h
    show (k + (j + 1), j_v G v) ∈ (k, j_v G x) :: lv_args (if (j_v G x).category = 2 then k + 2 else k + 1) (As.map (j_v G))
    rw [i_cat1 (hc x List.mem_cons_self), if_neg (by decide), show k + (j + 1) = k + 1 + j by omega]
    exact List.mem_cons_of_mem _ h1
theorem j_sl_len : ∀ As : List Value, (∀ v ∈ As, m_cat1 v = true) → (lg_sl (As.map (j_v G))).length = As.length
  | [], _ => rfl
  | x :: As, hc => by
    have h1 := j_sl_len As fun v hv => hc v (List.mem_cons_of_mem _ hv)
    unfold lg_sl at h1 ⊢
    rw [List.map_cons, List.flatMap_cons, List.length_append, h1, i_cat1 (hc x List.mem_cons_self), if_neg (by decide), List.length_cons]
    exact Nat.add_comm 1 _
theorem j_entry {As : List Value} (hc : ∀ v ∈ As, m_cat1 v = true) (hl : As.length ≤ nL) {JL : Array Slot} (h : lv_has JL nL (lv_args 0 (As.map (j_v G)))) : j_LS G (m_lin nL As) nL JL := by
  refine ⟨⟨h.1, h.2.1, fun q hq => ?_⟩, by unfold m_lin; rw [List.length_append, List.length_map, List.length_replicate]; omega⟩
  obtain ⟨a, w⟩ := q
  obtain ⟨k, v, h1, h2, h3⟩ := (j_l_mem _ 0 a w).mp hq
  unfold m_lin at h1
  by_cases hk : k < As.length
  · rw [List.getElem?_append_left (by rw [List.length_map]; exact hk), List.getElem?_map] at h1
    cases hv : As[k]? with
    | none => rw [hv] at h1; cases h1
    | some x =>
      rw [hv] at h1
      simp only [Option.map_some, Option.some.injEq] at h1
      subst h1
      have h4 := j_args_mem (G := G) As 0 k x hc hv
      rw [h2, h3, j_lv_cat1 (hc x (List.mem_of_getElem? hv))]
      exact h.2.2 _ h4
  · rw [List.getElem?_append_right (by rw [List.length_map]; omega)] at h1
    rw [List.getElem?_replicate] at h1
    split at h1 <;> cases h1
end JR
/-- what the runs of at most n instructions owe -/
def j_S (l : Launch) (X : m_X) (n : Nat) : Prop := ∀ (p : Program) (e : Env) (R : Room) (s : State) (mid : MethodId) (args : Array Value) (below : List Frame) (meth : Method) (c : Code) (G : j_G) (c0 s0 d y i : Nat) (ls : m_L) (st : List Value) (M : m_M) (r : m_R), y < 252 → G.2.2.2.2 = X →
  j_T p l R s mid args meth c G (m_ow y) (m_cd y) (m_mx y) (m_rt y) (m_ini y) (m_hh y) c0 s0 d r → m_run (m_prog X) n d y i ls st M = some r → j_P p l e R s mid args below meth c (j_Q below args s G r) G (m_mx y) c0 s0 (m_md y).1 i ls st M
theorem j_C {l : Launch} {X : m_X} {n : Nat} (hl : l.stackTraces = false) (hS : j_S l X n) {d y : Nat} {As : List Value} {M : m_M} {r : m_R} {G : j_G} (hy : y < 251) (hX : G.2.2.2.2 = X) (hc : ∀ v ∈ As, m_cat1 v = true) (hn : As.length ≤ (m_md y).2.2) (h : m_run (m_prog X) n d y 0 (m_lin (m_md y).2.2 As) [] M = some r) : j_Met l G d y As M r := by
  have Y := my_all hy
  obtain ⟨⟨f1, f2, f3, f4, f7⟩, f5, f6⟩ := mf_all (y := y) (by omega)
  obtain ⟨g1, g2, g3, g4, g5⟩ := mg_all (y := y) (by omega)
  have hpl : plainName (m_y y).cls = true := by rw [f1]; exact (j_plain _ f2).2.2
  obtain ⟨le1, le2⟩ := m_run_le _ _ _ _ _ _ _ _ h
  rw [g2] at h hn
  have main : ∀ (p : Program) (e : Env) (s : State) (m : MethodId) (args : Array Value) (below : List Frame) (meth : Method) (c : Code), j_F p l s m args meth c (m_ow y) (m_cd y) (m_mx y) (m_rt y) (m_ini y) (m_hh y) → j_Pc G As M args s →
      W p l e (j_rm d (r.2.2.2.1 - M.2.2.1) (r.2.2.2.2 - M.2.2.2)) s m args below meth c s.heap [] 0 0 (vx_MQ below (j_Qc G r) (j_XC G r) args s (r.2.2.2.1 - M.2.2.1) (r.2.2.2.2 - M.2.2.2) (j_A G)) (entryFrame m args (m_mx y)) := by
    intro p e s m args below meth c F P
    obtain ⟨rfl, p1, p2, p3, p4, p5, p6⟩ := P
    have T : j_T p l (j_rm d (r.2.2.2.1 - M.2.2.1) (r.2.2.2.2 - M.2.2.2)) s m (As.map (j_v G)).toArray meth c G (m_ow y) (m_cd y) (m_mx y) (m_rt y) (m_ini y) (m_hh y) M.2.2.1 M.2.2.2 d r := by
      refine ⟨F, p2, p3, ⟨p4, p5⟩, ⟨Nat.le_refl _, Nat.le_refl _⟩, ⟨?_, ?_⟩, f4, Or.inl (f7.resolve_left (by omega))⟩
      · show r.2.2.2.1 ≤ M.2.2.1 + (r.2.2.2.1 - M.2.2.1)
        omega
      · show r.2.2.2.2 ≤ M.2.2.2 + (r.2.2.2.2 - M.2.2.2)
        omega
    have P := hS p e _ s m _ below meth c G M.2.2.1 M.2.2.2 d y 0 (m_lin (m_mx y) As) [] M r (by omega) hX T h
    rw [lg_entry_eq]
    have K := P _ s.heap [] 0 0 ⟨p1, va_S.rf, p6, rfl, rfl⟩ (j_entry hc hn (lv_entry (As.map (j_v G)) (by rw [j_sl_len As hc]; exact hn)))
    rw [g5] at K
    exact K
  have hnm : ∀ (s : State) (m : MethodId) (meth : Method), s.methodNamed? (m_y y) = some m → s.vm.method? m = some meth → (m_ini y = true → meth.name = "<init>") := fun s m meth h1 h2 h3 => by
    rw [(name_of_methodNamed h1 h2).1]
    exact f5 h3
  by_cases h0 : m_hh y = []
  · refine vx_ofW (cc := m_cd y) (maxL := m_mx y) (ret := m_rt y) (ws' := m_ws) hpl (by unfold j_ws; rw [j_cw h0]) ?_
    intro p e s m args below meth c s₁ B hml ht P
    have hts := atoms_spec (ws := j_ws y) B.pre
    have hown : s.vm.findClass (m_cn (m_ow y)) = some m.cls := by rw [← f1]; exact findClass_of_methodNamed B.named
    exact main p e s m args below meth c ⟨B.exec, B.bytes, hml, hown, fun w hw => hts w (List.mem_cons_of_mem _ hw), B.returns, B.notSynchronized, Or.inl (by rw [h0]; exact List.eq_nil_iff_forall_not_mem.mpr fun x hx => ht x hx), hnm s m meth B.named B.method, hl⟩ P
  · have hcw : m_cw y = .codeWith (m_y y) (m_cd y) (m_mx y) (m_rt y) (m_hh y) := by
      unfold m_cw
      split
      · rename_i h9
        exact absurd h9 h0
      · rfl
    refine vx_ofWH (cc := m_cd y) (maxL := m_mx y) (ret := m_rt y) (hh := m_hh y) (ws' := m_ws) hpl (by unfold j_ws; rw [hcw]) ?_
    intro p e s m args below meth c s₁ B hml P
    have hts := atoms_spec (ws := j_ws y) B.pre
    have hown : s.vm.findClass (m_cn (m_ow y)) = some m.cls := by rw [← f1]; exact findClass_of_methodNamed B.named
    have htb := vx_table (x := m_y y) B (by rw [← hcw]; exact hts _ List.mem_cons_self)
    exact main p e s m args below meth c ⟨B.exec, B.bytes, hml, hown, fun w hw => hts w (List.mem_cons_of_mem _ hw), B.returns, B.notSynchronized, Or.inl htb, hnm s m meth B.named B.method, hl⟩ P
theorem j_sound (l : Launch) (hl : l.stackTraces = false) (X : m_X) : ∀ n : Nat, j_S l X n
  | 0 => fun _ _ _ _ _ _ _ _ _ _ _ _ _ _ _ _ _ _ _ _ _ _ h => by simp [m_run] at h
  | n + 1 => by
    have ih := j_sound l hl X n
    intro p e R s mid args below meth c G c0 s0 d y i ls st M r hy hX T h
    obtain ⟨-, -, f6⟩ := mf_all hy
    obtain ⟨g1, g2, g3, g4, g5⟩ := mg_all hy
    unfold m_run at h
    split at h
    · cases h
    · rename_i q hq
      have hcb : ∀ a, a < 251 → ∀ (As : List Value) (M : m_M) (r1 : m_R), (∀ v ∈ As, m_cat1 v = true) → (match d with
          | 0 => none
          | d + 1 => if As.length ≤ ((m_prog X).2.2.2 a).2.2 then m_run (m_prog X) n d a 0 (m_lin ((m_prog X).2.2.2 a).2.2 As) [] M else none) = some r1 → m_le M r1.2 ∧ ∃ d' : Nat, d = d' + 1 ∧ j_y a ∧ j_Met l G d' a As M r1 := by
        intro a ha As M r1 hc hr
        match d, hr with
        | 0, hr => cases hr
        | d + 1, hr =>
          simp only at hr
          split at hr
          · rename_i hn
            exact ⟨m_run_le _ _ _ _ _ _ _ _ hr, d, rfl, my_all ha, j_C hl ih ha hX hc hn hr⟩
          · cases hr
      have hk := g1 i q hq
      subst hX
      split at h
      · cases h
      · rename_i i1 ls1 st1 M1 hz
        exact p_all T f6 hq hk hcb hz ⟨m_run_le _ _ _ _ _ _ _ _ h, ih p e R s mid args below meth c G c0 s0 d y i1 ls1 st1 M1 r hy rfl T h⟩
      · rename_i r1 hz
        cases h
        exact p_all T f6 hq hk hcb hz rfl
