/-! .. of the reference -/
set_option maxRecDepth 100000 in
theorem o_X8_init : m_lm 8 cX8_init 2 none true [] m_X8_init = true := by decide +kernel
theorem g_X8_init : m_good 8 cX8_init 2 none true [] m_X8_init := m_good_of o_X8_init
set_option maxRecDepth 100000 in
theorem o_X8_thrown : m_lm 8 cX8_thrown 1 (some .int) false [] m_X8_thrown = true := by decide +kernel
theorem g_X8_thrown : m_good 8 cX8_thrown 1 (some .int) false [] m_X8_thrown := m_good_of o_X8_thrown
set_option maxRecDepth 100000 in
theorem o_X8_bad : m_lm 8 cX8_bad 3 (some .boolean) false [] m_X8_bad = true := by decide +kernel
theorem g_X8_bad : m_good 8 cX8_bad 3 (some .boolean) false [] m_X8_bad := m_good_of o_X8_bad
set_option maxRecDepth 100000 in
theorem o_X8_in : m_lm 8 cX8_in 3 (some .boolean) false [] m_X8_in = true := by decide +kernel
theorem g_X8_in : m_good 8 cX8_in 3 (some .boolean) false [] m_X8_in := m_good_of o_X8_in
set_option maxRecDepth 100000 in
theorem o_X8_less : m_lm 8 cX8_less 2 (some .int) false [] m_X8_less = true := by decide +kernel
theorem g_X8_less : m_good 8 cX8_less 2 (some .int) false [] m_X8_less := m_good_of o_X8_less
set_option maxRecDepth 100000 in
theorem o_X8_feed : m_lm 8 cX8_feed 8 (some .int) false [] m_X8_feed = true := by decide +kernel
theorem g_X8_feed : m_good 8 cX8_feed 8 (some .int) false [] m_X8_feed := m_good_of o_X8_feed
set_option maxRecDepth 100000 in
theorem o_X8_byteAt : m_lm 8 cX8_byteAt 2 (some .int) false [] m_X8_byteAt = true := by decide +kernel
theorem g_X8_byteAt : m_good 8 cX8_byteAt 2 (some .int) false [] m_X8_byteAt := m_good_of o_X8_byteAt
set_option maxRecDepth 100000 in
theorem o_X8_blanks : m_lm 8 cX8_blanks 1 none false [] m_X8_blanks = true := by decide +kernel
theorem g_X8_blanks : m_good 8 cX8_blanks 1 none false [] m_X8_blanks := m_good_of o_X8_blanks
set_option maxRecDepth 100000 in
theorem o_X8_wrongAt : m_lm 8 cX8_wrongAt 3 none false [] m_X8_wrongAt = true := by decide +kernel
theorem g_X8_wrongAt : m_good 8 cX8_wrongAt 3 none false [] m_X8_wrongAt := m_good_of o_X8_wrongAt
set_option maxRecDepth 100000 in
theorem o_X8_isDigit : m_lm 8 cX8_isDigit 1 (some .boolean) false [] m_X8_isDigit = true := by decide +kernel
theorem g_X8_isDigit : m_good 8 cX8_isDigit 1 (some .boolean) false [] m_X8_isDigit := m_good_of o_X8_isDigit
set_option maxRecDepth 100000 in
theorem o_X8_number : m_lm 8 cX8_number 5 (some .int) false [] m_X8_number = true := by decide +kernel
theorem g_X8_number : m_good 8 cX8_number 5 (some .int) false [] m_X8_number := m_good_of o_X8_number
set_option maxRecDepth 100000 in
theorem o_X8_wordHere : m_lm 8 cX8_wordHere 3 (some .int) false [] m_X8_wordHere = true := by decide +kernel
theorem g_X8_wordHere : m_good 8 cX8_wordHere 3 (some .int) false [] m_X8_wordHere := m_good_of o_X8_wordHere
set_option maxRecDepth 100000 in
theorem o_X8_isAnswers : m_lm 8 cX8_isAnswers 1 (some .boolean) false [] m_X8_isAnswers = true := by decide +kernel
theorem g_X8_isAnswers : m_good 8 cX8_isAnswers 1 (some .boolean) false [] m_X8_isAnswers := m_good_of o_X8_isAnswers
set_option maxRecDepth 100000 in
theorem o_X8_word : m_lm 8 cX8_word 7 (some .int) false [] m_X8_word = true := by decide +kernel
theorem g_X8_word : m_good 8 cX8_word 7 (some .int) false [] m_X8_word := m_good_of o_X8_word
set_option maxRecDepth 100000 in
theorem o_X8_isWord : m_lm 8 cX8_isWord 7 (some .boolean) false [] m_X8_isWord = true := by decide +kernel
theorem g_X8_isWord : m_good 8 cX8_isWord 7 (some .boolean) false [] m_X8_isWord := m_good_of o_X8_isWord
set_option maxRecDepth 100000 in
theorem o_X8_skipWord : m_lm 8 cX8_skipWord 1 none false [] m_X8_skipWord = true := by decide +kernel
theorem g_X8_skipWord : m_good 8 cX8_skipWord 1 none false [] m_X8_skipWord := m_good_of o_X8_skipWord
set_option maxRecDepth 100000 in
theorem o_X8_sign : m_lm 8 cX8_sign 2 none false [] m_X8_sign = true := by decide +kernel
theorem g_X8_sign : m_good 8 cX8_sign 2 none false [] m_X8_sign := m_good_of o_X8_sign
set_option maxRecDepth 100000 in
theorem o_X8_opens : m_lm 8 cX8_opens 2 none false [] m_X8_opens = true := by decide +kernel
theorem g_X8_opens : m_good 8 cX8_opens 2 none false [] m_X8_opens := m_good_of o_X8_opens
set_option maxRecDepth 100000 in
theorem o_X8_nameHere : m_lm 8 cX8_nameHere 1 (some .int) false [] m_X8_nameHere = true := by decide +kernel
theorem g_X8_nameHere : m_good 8 cX8_nameHere 1 (some .int) false [] m_X8_nameHere := m_good_of o_X8_nameHere
set_option maxRecDepth 100000 in
theorem o_X8_unit : m_lm 8 cX8_unit 6 (some .int) false [] m_X8_unit = true := by decide +kernel
theorem g_X8_unit : m_good 8 cX8_unit 6 (some .int) false [] m_X8_unit := m_good_of o_X8_unit
set_option maxRecDepth 100000 in
theorem o_X8_product : m_lm 8 cX8_product 4 (some .int) false [] m_X8_product = true := by decide +kernel
theorem g_X8_product : m_good 8 cX8_product 4 (some .int) false [] m_X8_product := m_good_of o_X8_product
set_option maxRecDepth 100000 in
theorem o_X8_sum : m_lm 8 cX8_sum 4 (some .int) false [] m_X8_sum = true := by decide +kernel
theorem g_X8_sum : m_good 8 cX8_sum 4 (some .int) false [] m_X8_sum := m_good_of o_X8_sum
set_option maxRecDepth 100000 in
theorem o_X8_test : m_lm 8 cX8_test 4 (some .boolean) false [] m_X8_test = true := by decide +kernel
theorem g_X8_test : m_good 8 cX8_test 4 (some .boolean) false [] m_X8_test := m_good_of o_X8_test
set_option maxRecDepth 100000 in
theorem o_X8_ands : m_lm 8 cX8_ands 3 (some .boolean) false [] m_X8_ands = true := by decide +kernel
theorem g_X8_ands : m_good 8 cX8_ands 3 (some .boolean) false [] m_X8_ands := m_good_of o_X8_ands
set_option maxRecDepth 100000 in
theorem o_X8_ors : m_lm 8 cX8_ors 3 (some .boolean) false [] m_X8_ors = true := by decide +kernel
theorem g_X8_ors : m_good 8 cX8_ors 3 (some .boolean) false [] m_X8_ors := m_good_of o_X8_ors
set_option maxRecDepth 100000 in
theorem o_X8_keepingHere : m_lm 8 cX8_keepingHere 1 (some .int) false [] m_X8_keepingHere = true := by decide +kernel
theorem g_X8_keepingHere : m_good 8 cX8_keepingHere 1 (some .int) false [] m_X8_keepingHere := m_good_of o_X8_keepingHere
set_option maxRecDepth 100000 in
theorem o_X8_harmHere : m_lm 8 cX8_harmHere 1 (some .int) false [] m_X8_harmHere = true := by decide +kernel
theorem g_X8_harmHere : m_good 8 cX8_harmHere 1 (some .int) false [] m_X8_harmHere := m_good_of o_X8_harmHere
set_option maxRecDepth 100000 in
theorem o_X8_harms : m_lm 8 cX8_harms 4 (some .boolean) false [] m_X8_harms = true := by decide +kernel
theorem g_X8_harms : m_good 8 cX8_harms 4 (some .boolean) false [] m_X8_harms := m_good_of o_X8_harms
set_option maxRecDepth 100000 in
theorem o_X8_terms : m_lm 8 cX8_terms 3 (some .boolean) false [] m_X8_terms = true := by decide +kernel
theorem g_X8_terms : m_good 8 cX8_terms 3 (some .boolean) false [] m_X8_terms := m_good_of o_X8_terms
set_option maxRecDepth 100000 in
theorem o_X8_clause : m_lm 8 cX8_clause 3 none false [] m_X8_clause = true := by decide +kernel
theorem g_X8_clause : m_good 8 cX8_clause 3 none false [] m_X8_clause := m_good_of o_X8_clause
set_option maxRecDepth 100000 in
theorem o_X8_mixes : m_lm 8 cX8_mixes 3 none false [] m_X8_mixes = true := by decide +kernel
theorem g_X8_mixes : m_good 8 cX8_mixes 3 none false [] m_X8_mixes := m_good_of o_X8_mixes
set_option maxRecDepth 100000 in
theorem o_X8_says : m_lm 8 cX8_says 6 none false [] m_X8_says = true := by decide +kernel
theorem g_X8_says : m_good 8 cX8_says 6 none false [] m_X8_says := m_good_of o_X8_says
set_option maxRecDepth 100000 in
theorem o_X8_walks : m_lm 8 cX8_walks 1 none false [] m_X8_walks = true := by decide +kernel
theorem g_X8_walks : m_good 8 cX8_walks 1 none false [] m_X8_walks := m_good_of o_X8_walks
set_option maxRecDepth 100000 in
theorem o_X8_law : m_lm 8 cX8_law 3 (some .int) false [] m_X8_law = true := by decide +kernel
theorem g_X8_law : m_good 8 cX8_law 3 (some .int) false [] m_X8_law := m_good_of o_X8_law
set_option maxRecDepth 100000 in
theorem o_X8_fault : m_lm 8 cX8_fault 1 (some .int) false [] m_X8_fault = true := by decide +kernel
theorem g_X8_fault : m_good 8 cX8_fault 1 (some .int) false [] m_X8_fault := m_good_of o_X8_fault
set_option maxRecDepth 100000 in
theorem o_X8_force : m_lm 8 cX8_force 3 (some .int) false [] m_X8_force = true := by decide +kernel
theorem g_X8_force : m_good 8 cX8_force 3 (some .int) false [] m_X8_force := m_good_of o_X8_force
set_option maxRecDepth 100000 in
theorem o_X8_asks : m_lm 8 cX8_asks 5 none false [] m_X8_asks = true := by decide +kernel
theorem g_X8_asks : m_good 8 cX8_asks 5 none false [] m_X8_asks := m_good_of o_X8_asks
set_option maxRecDepth 100000 in
theorem o_X8_tellsBits : m_lm 8 cX8_tellsBits 3 none false [] m_X8_tellsBits = true := by decide +kernel
theorem g_X8_tellsBits : m_good 8 cX8_tellsBits 3 none false [] m_X8_tellsBits := m_good_of o_X8_tellsBits
set_option maxRecDepth 100000 in
theorem o_X8_words : m_lm 8 cX8_words 7 (some .int) false [] m_X8_words = true := by decide +kernel
theorem g_X8_words : m_good 8 cX8_words 7 (some .int) false [] m_X8_words := m_good_of o_X8_words
set_option maxRecDepth 100000 in
theorem o_X8_lets : m_lm 8 cX8_lets 5 (some .boolean) false [] m_X8_lets = true := by decide +kernel
theorem g_X8_lets : m_good 8 cX8_lets 5 (some .boolean) false [] m_X8_lets := m_good_of o_X8_lets
set_option maxRecDepth 100000 in
theorem o_X8_pass : m_lm 8 cX8_pass 7 (some .int) false [] m_X8_pass = true := by decide +kernel
theorem g_X8_pass : m_good 8 cX8_pass 7 (some .int) false [] m_X8_pass := m_good_of o_X8_pass
set_option maxRecDepth 100000 in
theorem o_X8_isHand : m_lm 8 cX8_isHand 2 (some .boolean) false [] m_X8_isHand = true := by decide +kernel
theorem g_X8_isHand : m_good 8 cX8_isHand 2 (some .boolean) false [] m_X8_isHand := m_good_of o_X8_isHand
set_option maxRecDepth 100000 in
theorem o_X8_hand : m_lm 8 cX8_hand 3 (some .int) false [] m_X8_hand = true := by decide +kernel
theorem g_X8_hand : m_good 8 cX8_hand 3 (some .int) false [] m_X8_hand := m_good_of o_X8_hand
set_option maxRecDepth 100000 in
theorem o_X8_value : m_lm 8 cX8_value 3 (some .int) false [] m_X8_value = true := by decide +kernel
theorem g_X8_value : m_good 8 cX8_value 3 (some .int) false [] m_X8_value := m_good_of o_X8_value
set_option maxRecDepth 100000 in
theorem o_X8_purse : m_lm 8 cX8_purse 4 (some .int) false [] m_X8_purse = true := by decide +kernel
theorem g_X8_purse : m_good 8 cX8_purse 4 (some .int) false [] m_X8_purse := m_good_of o_X8_purse
set_option maxRecDepth 100000 in
theorem o_X8_fact : m_lm 8 cX8_fact 5 (some .boolean) false [] m_X8_fact = true := by decide +kernel
theorem g_X8_fact : m_good 8 cX8_fact 5 (some .boolean) false [] m_X8_fact := m_good_of o_X8_fact
set_option maxRecDepth 100000 in
theorem o_X8_harm : m_lm 8 cX8_harm 4 (some .int) false [] m_X8_harm = true := by decide +kernel
theorem g_X8_harm : m_good 8 cX8_harm 4 (some .int) false [] m_X8_harm := m_good_of o_X8_harm
set_option maxRecDepth 100000 in
theorem o_X8_findHolder : m_lm 8 cX8_findHolder 2 none false [] m_X8_findHolder = true := by decide +kernel
theorem g_X8_findHolder : m_good 8 cX8_findHolder 2 none false [] m_X8_findHolder := m_good_of o_X8_findHolder
set_option maxRecDepth 100000 in
theorem o_X8_hasPassed : m_lm 8 cX8_hasPassed 2 (some .boolean) false [] m_X8_hasPassed = true := by decide +kernel
theorem g_X8_hasPassed : m_good 8 cX8_hasPassed 2 (some .boolean) false [] m_X8_hasPassed := m_good_of o_X8_hasPassed
set_option maxRecDepth 100000 in
theorem o_X8_tellsNames : m_lm 8 cX8_tellsNames 4 none false [] m_X8_tellsNames = true := by decide +kernel
theorem g_X8_tellsNames : m_good 8 cX8_tellsNames 4 none false [] m_X8_tellsNames := m_good_of o_X8_tellsNames
set_option maxRecDepth 100000 in
theorem o_X8_ends : m_lm 8 cX8_ends 4 none false [] m_X8_ends = true := by decide +kernel
theorem g_X8_ends : m_good 8 cX8_ends 4 none false [] m_X8_ends := m_good_of o_X8_ends
set_option maxRecDepth 100000 in
theorem o_X8_holder : m_lm 8 cX8_holder 1 (some .int) false [] m_X8_holder = true := by decide +kernel
theorem g_X8_holder : m_good 8 cX8_holder 1 (some .int) false [] m_X8_holder := m_good_of o_X8_holder
set_option maxRecDepth 100000 in
theorem o_X8_isWithin : m_lm 8 cX8_isWithin 2 (some .boolean) false [] m_X8_isWithin = true := by decide +kernel
theorem g_X8_isWithin : m_good 8 cX8_isWithin 2 (some .boolean) false [] m_X8_isWithin := m_good_of o_X8_isWithin
set_option maxRecDepth 100000 in
theorem o_X8_name : m_lm 8 cX8_name 3 (some .int) false [] m_X8_name = true := by decide +kernel
theorem g_X8_name : m_good 8 cX8_name 3 (some .int) false [] m_X8_name := m_good_of o_X8_name
set_option maxRecDepth 100000 in
theorem o_X8_claim : m_lm 8 cX8_claim 2 (some .int) false [] m_X8_claim = true := by decide +kernel
theorem g_X8_claim : m_good 8 cX8_claim 2 (some .int) false [] m_X8_claim := m_good_of o_X8_claim
set_option maxRecDepth 100000 in
theorem o_X8_whom : m_lm 8 cX8_whom 2 (some .int) false [] m_X8_whom = true := by decide +kernel
theorem g_X8_whom : m_good 8 cX8_whom 2 (some .int) false [] m_X8_whom := m_good_of o_X8_whom
set_option maxRecDepth 100000 in
theorem o_X8_pays : m_lm 8 cX8_pays 2 (some .int) false [] m_X8_pays = true := by decide +kernel
theorem g_X8_pays : m_good 8 cX8_pays 2 (some .int) false [] m_X8_pays := m_good_of o_X8_pays
set_option maxRecDepth 100000 in
theorem o_X8_bears : m_lm 8 cX8_bears 2 (some .int) false [] m_X8_bears = true := by decide +kernel
theorem g_X8_bears : m_good 8 cX8_bears 2 (some .int) false [] m_X8_bears := m_good_of o_X8_bears
set_option maxRecDepth 100000 in
theorem o_X8_must : m_lm 8 cX8_must 2 (some .boolean) false [] m_X8_must = true := by decide +kernel
theorem g_X8_must : m_good 8 cX8_must 2 (some .boolean) false [] m_X8_must := m_good_of o_X8_must
set_option maxRecDepth 100000 in
theorem o_X8_frees : m_lm 8 cX8_frees 3 (some .int) false [] m_X8_frees = true := by decide +kernel
theorem g_X8_frees : m_good 8 cX8_frees 3 (some .int) false [] m_X8_frees := m_good_of o_X8_frees
set_option maxRecDepth 100000 in
theorem o_X8_question : m_lm 8 cX8_question 4 (some .int) false [] m_X8_question = true := by decide +kernel
theorem g_X8_question : m_good 8 cX8_question 4 (some .int) false [] m_X8_question := m_good_of o_X8_question
set_option maxRecDepth 100000 in
theorem o_X8_goesInto : m_lm 8 cX8_goesInto 5 none false [] m_X8_goesInto = true := by decide +kernel
theorem g_X8_goesInto : m_good 8 cX8_goesInto 5 none false [] m_X8_goesInto := m_good_of o_X8_goesInto
set_option maxRecDepth 100000 in
theorem o_X8_comesBack : m_lm 8 cX8_comesBack 3 none false [] m_X8_comesBack = true := by decide +kernel
theorem g_X8_comesBack : m_good 8 cX8_comesBack 3 none false [] m_X8_comesBack := m_good_of o_X8_comesBack
set_option maxRecDepth 100000 in
theorem o_X8_caseMany : m_lm 8 cX8_caseMany 1 (some .int) false [] m_X8_caseMany = true := by decide +kernel
theorem g_X8_caseMany : m_good 8 cX8_caseMany 1 (some .int) false [] m_X8_caseMany := m_good_of o_X8_caseMany
set_option maxRecDepth 100000 in
theorem o_X8_findCases : m_lm 8 cX8_findCases 3 none false [] m_X8_findCases = true := by decide +kernel
theorem g_X8_findCases : m_good 8 cX8_findCases 3 none false [] m_X8_findCases := m_good_of o_X8_findCases
set_option maxRecDepth 100000 in
theorem o_X8_inCase : m_lm 8 cX8_inCase 3 (some .int) false [] m_X8_inCase = true := by decide +kernel
theorem g_X8_inCase : m_good 8 cX8_inCase 3 (some .int) false [] m_X8_inCase := m_good_of o_X8_inCase
set_option maxRecDepth 100000 in
theorem o_X8_casesOf : m_lm 8 cX8_casesOf 4 (some .int) false [] m_X8_casesOf = true := by decide +kernel
theorem g_X8_casesOf : m_good 8 cX8_casesOf 4 (some .int) false [] m_X8_casesOf := m_good_of o_X8_casesOf
set_option maxRecDepth 100000 in
theorem o_X8_sure : m_lm 8 cX8_sure 3 (some .int) false [] m_X8_sure = true := by decide +kernel
theorem g_X8_sure : m_good 8 cX8_sure 3 (some .int) false [] m_X8_sure := m_good_of o_X8_sure
set_option maxRecDepth 100000 in
theorem o_X8_cases : m_lm 8 cX8_cases 2 (some .int) false [] m_X8_cases = true := by decide +kernel
theorem g_X8_cases : m_good 8 cX8_cases 2 (some .int) false [] m_X8_cases := m_good_of o_X8_cases
set_option maxRecDepth 100000 in
theorem o_X8_hangs : m_lm 8 cX8_hangs 7 (some .int) false [] m_X8_hangs = true := by decide +kernel
theorem g_X8_hangs : m_good 8 cX8_hangs 7 (some .int) false [] m_X8_hangs := m_good_of o_X8_hangs
set_option maxRecDepth 100000 in
theorem o_X8_ones : m_lm 8 cX8_ones 3 (some .int) false [] m_X8_ones = true := by decide +kernel
theorem g_X8_ones : m_good 8 cX8_ones 3 (some .int) false [] m_X8_ones := m_good_of o_X8_ones
set_option maxRecDepth 100000 in
theorem o_X8_areAlike : m_lm 8 cX8_areAlike 4 (some .boolean) false [] m_X8_areAlike = true := by decide +kernel
theorem g_X8_areAlike : m_good 8 cX8_areAlike 4 (some .boolean) false [] m_X8_areAlike := m_good_of o_X8_areAlike
set_option maxRecDepth 100000 in
theorem o_X8_settles : m_lm 8 cX8_settles 3 (some .boolean) false [] m_X8_settles = true := by decide +kernel
theorem g_X8_settles : m_good 8 cX8_settles 3 (some .boolean) false [] m_X8_settles := m_good_of o_X8_settles
set_option maxRecDepth 100000 in
theorem o_X8_least : m_lm 8 cX8_least 3 (some .int) false [] m_X8_least = true := by decide +kernel
theorem g_X8_least : m_good 8 cX8_least 3 (some .int) false [] m_X8_least := m_good_of o_X8_least
set_option maxRecDepth 100000 in
theorem o_X8_find : m_lm 8 cX8_find 8 (some .int) false [] m_X8_find = true := by decide +kernel
theorem g_X8_find : m_good 8 cX8_find 8 (some .int) false [] m_X8_find := m_good_of o_X8_find
set_option maxRecDepth 100000 in
theorem o_X8_titleNow : m_lm 8 cX8_titleNow 4 (some .int) false [] m_X8_titleNow = true := by decide +kernel
theorem g_X8_titleNow : m_good 8 cX8_titleNow 4 (some .int) false [] m_X8_titleNow := m_good_of o_X8_titleNow
set_option maxRecDepth 100000 in
theorem o_X8_title : m_lm 8 cX8_title 1 (some .int) false [] m_X8_title = true := by decide +kernel
theorem g_X8_title : m_good 8 cX8_title 1 (some .int) false [] m_X8_title := m_good_of o_X8_title
set_option maxRecDepth 100000 in
theorem o_X8_found : m_lm 8 cX8_found 3 (some .int) false [] m_X8_found = true := by decide +kernel
theorem g_X8_found : m_good 8 cX8_found 3 (some .int) false [] m_X8_found := m_good_of o_X8_found
set_option maxRecDepth 100000 in
theorem o_X8_put : m_lm 8 cX8_put 3 (some .int) false [] m_X8_put = true := by decide +kernel
theorem g_X8_put : m_good 8 cX8_put 3 (some .int) false [] m_X8_put := m_good_of o_X8_put
set_option maxRecDepth 100000 in
theorem o_X8_share : m_lm 8 cX8_share 8 (some .int) false [] m_X8_share = true := by decide +kernel
theorem g_X8_share : m_good 8 cX8_share 8 (some .int) false [] m_X8_share := m_good_of o_X8_share
set_option maxRecDepth 100000 in
theorem o_X8_judge : m_lm 8 cX8_judge 4 (some .int) false [] m_X8_judge = true := by decide +kernel
theorem g_X8_judge : m_good 8 cX8_judge 4 (some .int) false [] m_X8_judge := m_good_of o_X8_judge
set_option maxRecDepth 100000 in
theorem o_X8_wrong : m_lm 8 cX8_wrong 2 (some .int) false [] m_X8_wrong = true := by decide +kernel
theorem g_X8_wrong : m_good 8 cX8_wrong 2 (some .int) false [] m_X8_wrong := m_good_of o_X8_wrong
set_option maxRecDepth 100000 in
theorem o_X8_claimIn : m_lm 8 cX8_claimIn 3 (some .int) false [] m_X8_claimIn = true := by decide +kernel
theorem g_X8_claimIn : m_good 8 cX8_claimIn 3 (some .int) false [] m_X8_claimIn := m_good_of o_X8_claimIn
set_option maxRecDepth 100000 in
theorem o_X8_parting : m_lm 8 cX8_parting 4 (some .int) false [] m_X8_parting = true := by decide +kernel
theorem g_X8_parting : m_good 8 cX8_parting 4 (some .int) false [] m_X8_parting := m_good_of o_X8_parting
set_option maxRecDepth 100000 in
theorem o_X8_beside : m_lm 8 cX8_beside 3 (some .int) false [] m_X8_beside = true := by decide +kernel
theorem g_X8_beside : m_good 8 cX8_beside 3 (some .int) false [] m_X8_beside := m_good_of o_X8_beside
set_option maxRecDepth 100000 in
theorem o_X8_moves : m_lm 8 cX8_moves 5 (some .int) false [] m_X8_moves = true := by decide +kernel
theorem g_X8_moves : m_good 8 cX8_moves 5 (some .int) false [] m_X8_moves := m_good_of o_X8_moves
set_option maxRecDepth 100000 in
theorem o_X8_movesAll : m_lm 8 cX8_movesAll 5 none false [] m_X8_movesAll = true := by decide +kernel
theorem g_X8_movesAll : m_good 8 cX8_movesAll 5 none false [] m_X8_movesAll := m_good_of o_X8_movesAll
set_option maxRecDepth 100000 in
theorem o_X8_image : m_lm 8 cX8_image 1 (some .int) false [] m_X8_image = true := by decide +kernel
theorem g_X8_image : m_good 8 cX8_image 1 (some .int) false [] m_X8_image := m_good_of o_X8_image
set_option maxRecDepth 100000 in
theorem o_X8_restore : m_lm 8 cX8_restore 1 (some .int) false [] m_X8_restore = true := by decide +kernel
theorem g_X8_restore : m_good 8 cX8_restore 1 (some .int) false [] m_X8_restore := m_good_of o_X8_restore
set_option maxRecDepth 100000 in
theorem o_X8_count : m_lm 8 cX8_count 2 (some .int) false [] m_X8_count = true := by decide +kernel
theorem g_X8_count : m_good 8 cX8_count 2 (some .int) false [] m_X8_count := m_good_of o_X8_count
