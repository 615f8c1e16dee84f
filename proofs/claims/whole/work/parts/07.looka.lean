/-! THE LOOK at the methods of the class, one by one; written by a program (wip/whole/gen_06.py) -/
set_option maxRecDepth 100000 in
theorem o_X0_init : m_lm 0 cX0_init 2 none true [] m_X0_init = true := by decide +kernel
theorem g_X0_init : m_good 0 cX0_init 2 none true [] m_X0_init := m_good_of o_X0_init
set_option maxRecDepth 100000 in
theorem o_X0_setTo : m_lm 0 cX0_setTo 3 none false [] m_X0_setTo = true := by decide +kernel
theorem g_X0_setTo : m_good 0 cX0_setTo 3 none false [] m_X0_setTo := m_good_of o_X0_setTo
set_option maxRecDepth 100000 in
theorem o_X0_latestHolder : m_lm 0 cX0_latestHolder 3 (some .int) false [] m_X0_latestHolder = true := by decide +kernel
theorem g_X0_latestHolder : m_good 0 cX0_latestHolder 3 (some .int) false [] m_X0_latestHolder := m_good_of o_X0_latestHolder
set_option maxRecDepth 100000 in
theorem o_X0_hasPassed : m_lm 0 cX0_hasPassed 3 (some .boolean) false [] m_X0_hasPassed = true := by decide +kernel
theorem g_X0_hasPassed : m_good 0 cX0_hasPassed 3 (some .boolean) false [] m_X0_hasPassed := m_good_of o_X0_hasPassed
set_option maxRecDepth 100000 in
theorem o_X0_nameHand : m_lm 0 cX0_nameHand 7 none false [] m_X0_nameHand = true := by decide +kernel
theorem g_X0_nameHand : m_good 0 cX0_nameHand 7 none false [] m_X0_nameHand := m_good_of o_X0_nameHand
set_option maxRecDepth 100000 in
theorem o_X0_ask : m_lm 0 cX0_ask 5 (some .int) false [] m_X0_ask = true := by decide +kernel
theorem g_X0_ask : m_good 0 cX0_ask 5 (some .int) false [] m_X0_ask := m_good_of o_X0_ask
set_option maxRecDepth 100000 in
theorem o_X0_dropQuestion : m_lm 0 cX0_dropQuestion 3 none false [] m_X0_dropQuestion = true := by decide +kernel
theorem g_X0_dropQuestion : m_good 0 cX0_dropQuestion 3 none false [] m_X0_dropQuestion := m_good_of o_X0_dropQuestion
set_option maxRecDepth 100000 in
theorem o_X0_suppose : m_lm 0 cX0_suppose 4 none false [] m_X0_suppose = true := by decide +kernel
theorem g_X0_suppose : m_good 0 cX0_suppose 4 none false [] m_X0_suppose := m_good_of o_X0_suppose
set_option maxRecDepth 100000 in
theorem o_X0_tell : m_lm 0 cX0_tell 4 none false [] m_X0_tell = true := by decide +kernel
theorem g_X0_tell : m_good 0 cX0_tell 4 none false [] m_X0_tell := m_good_of o_X0_tell
set_option maxRecDepth 100000 in
theorem o_X1_init : m_lm 1 cX1_init 1 none true [] m_X1_init = true := by decide +kernel
theorem g_X1_init : m_good 1 cX1_init 1 none true [] m_X1_init := m_good_of o_X1_init
set_option maxRecDepth 100000 in
theorem o_X1_reckon : m_lm 1 cX1_reckon 4 none false [] m_X1_reckon = true := by decide +kernel
theorem g_X1_reckon : m_good 1 cX1_reckon 4 none false [] m_X1_reckon := m_good_of o_X1_reckon
set_option maxRecDepth 100000 in
theorem o_X1_clear : m_lm 1 cX1_clear 2 none false [] m_X1_clear = true := by decide +kernel
theorem g_X1_clear : m_good 1 cX1_clear 2 none false [] m_X1_clear := m_good_of o_X1_clear
set_option maxRecDepth 100000 in
theorem o_X1_claimOn : m_lm 1 cX1_claimOn 6 none false [] m_X1_claimOn = true := by decide +kernel
theorem g_X1_claimOn : m_good 1 cX1_claimOn 6 none false [] m_X1_claimOn := m_good_of o_X1_claimOn
set_option maxRecDepth 100000 in
theorem o_X1_payUp : m_lm 1 cX1_payUp 3 none false [] m_X1_payUp = true := by decide +kernel
theorem g_X1_payUp : m_good 1 cX1_payUp 3 none false [] m_X1_payUp := m_good_of o_X1_payUp
set_option maxRecDepth 100000 in
theorem o_X1_payOwner : m_lm 1 cX1_payOwner 3 none false [] m_X1_payOwner = true := by decide +kernel
theorem g_X1_payOwner : m_good 1 cX1_payOwner 3 none false [] m_X1_payOwner := m_good_of o_X1_payOwner
set_option maxRecDepth 100000 in
theorem o_X1_titleFor : m_lm 1 cX1_titleFor 5 (some .int) false [] m_X1_titleFor = true := by decide +kernel
theorem g_X1_titleFor : m_good 1 cX1_titleFor 5 (some .int) false [] m_X1_titleFor := m_good_of o_X1_titleFor
set_option maxRecDepth 100000 in
theorem o_X2_init : m_lm 2 cX2_init 1 none true [] m_X2_init = true := by decide +kernel
theorem g_X2_init : m_good 2 cX2_init 1 none true [] m_X2_init := m_good_of o_X2_init
set_option maxRecDepth 100000 in
theorem o_X2_setTo : m_lm 2 cX2_setTo 2 none false [] m_X2_setTo = true := by decide +kernel
theorem g_X2_setTo : m_good 2 cX2_setTo 2 none false [] m_X2_setTo := m_good_of o_X2_setTo
set_option maxRecDepth 100000 in
theorem o_X2_add : m_lm 2 cX2_add 3 (some .boolean) false [] m_X2_add = true := by decide +kernel
theorem g_X2_add : m_good 2 cX2_add 3 (some .boolean) false [] m_X2_add := m_good_of o_X2_add
set_option maxRecDepth 100000 in
theorem o_X2_all : m_lm 2 cX2_all 3 (some .int) false [] m_X2_all = true := by decide +kernel
theorem g_X2_all : m_good 2 cX2_all 3 (some .int) false [] m_X2_all := m_good_of o_X2_all
set_option maxRecDepth 100000 in
theorem o_X2_allOf : m_lm 2 cX2_allOf 2 (some .int) false [] m_X2_allOf = true := by decide +kernel
theorem g_X2_allOf : m_good 2 cX2_allOf 2 (some .int) false [] m_X2_allOf := m_good_of o_X2_allOf
set_option maxRecDepth 100000 in
theorem o_X2_lostLast : m_lm 2 cX2_lostLast 7 (some .int) false [] m_X2_lostLast = true := by decide +kernel
theorem g_X2_lostLast : m_good 2 cX2_lostLast 7 (some .int) false [] m_X2_lostLast := m_good_of o_X2_lostLast
set_option maxRecDepth 100000 in
theorem o_X3_init : m_lm 3 cX3_init 1 none true [] m_X3_init = true := by decide +kernel
theorem g_X3_init : m_good 3 cX3_init 1 none true [] m_X3_init := m_good_of o_X3_init
set_option maxRecDepth 100000 in
theorem o_X3_clear : m_lm 3 cX3_clear 1 none false [] m_X3_clear = true := by decide +kernel
theorem g_X3_clear : m_good 3 cX3_clear 1 none false [] m_X3_clear := m_good_of o_X3_clear
set_option maxRecDepth 100000 in
theorem o_X3_setTo : m_lm 3 cX3_setTo 2 none false [] m_X3_setTo = true := by decide +kernel
theorem g_X3_setTo : m_good 3 cX3_setTo 2 none false [] m_X3_setTo := m_good_of o_X3_setTo
set_option maxRecDepth 100000 in
theorem o_X3_entry : m_lm 3 cX3_entry 2 (some .int) false [] m_X3_entry = true := by decide +kernel
theorem g_X3_entry : m_good 3 cX3_entry 2 (some .int) false [] m_X3_entry := m_good_of o_X3_entry
set_option maxRecDepth 100000 in
theorem o_X3_hasFact : m_lm 3 cX3_hasFact 2 (some .boolean) false [] m_X3_hasFact = true := by decide +kernel
theorem g_X3_hasFact : m_good 3 cX3_hasFact 2 (some .boolean) false [] m_X3_hasFact := m_good_of o_X3_hasFact
set_option maxRecDepth 100000 in
theorem o_X3_tellFact : m_lm 3 cX3_tellFact 4 none false [] m_X3_tellFact = true := by decide +kernel
theorem g_X3_tellFact : m_good 3 cX3_tellFact 4 none false [] m_X3_tellFact := m_good_of o_X3_tellFact
set_option maxRecDepth 100000 in
theorem o_X4_init : m_lm 4 cX4_init 1 none true [] m_X4_init = true := by decide +kernel
theorem g_X4_init : m_good 4 cX4_init 1 none true [] m_X4_init := m_good_of o_X4_init
set_option maxRecDepth 100000 in
theorem o_X4_clear : m_lm 4 cX4_clear 1 none false [] m_X4_clear = true := by decide +kernel
theorem g_X4_clear : m_good 4 cX4_clear 1 none false [] m_X4_clear := m_good_of o_X4_clear
set_option maxRecDepth 100000 in
theorem o_X4_isFull : m_lm 4 cX4_isFull 1 (some .boolean) false [] m_X4_isFull = true := by decide +kernel
theorem g_X4_isFull : m_good 4 cX4_isFull 1 (some .boolean) false [] m_X4_isFull := m_good_of o_X4_isFull
set_option maxRecDepth 100000 in
theorem o_X4_beginClause : m_lm 4 cX4_beginClause 3 none false [] m_X4_beginClause = true := by decide +kernel
theorem g_X4_beginClause : m_good 4 cX4_beginClause 3 none false [] m_X4_beginClause := m_good_of o_X4_beginClause
set_option maxRecDepth 100000 in
theorem o_X4_include : m_lm 4 cX4_include 2 none false [] m_X4_include = true := by decide +kernel
theorem g_X4_include : m_good 4 cX4_include 2 none false [] m_X4_include := m_good_of o_X4_include
set_option maxRecDepth 100000 in
theorem o_X4_addStep : m_lm 4 cX4_addStep 2 none false [] m_X4_addStep = true := by decide +kernel
theorem g_X4_addStep : m_good 4 cX4_addStep 2 none false [] m_X4_addStep := m_good_of o_X4_addStep
set_option maxRecDepth 100000 in
theorem o_X4_holdsFor : m_lm 4 cX4_holdsFor 6 (some .boolean) false [] m_X4_holdsFor = true := by decide +kernel
theorem g_X4_holdsFor : m_good 4 cX4_holdsFor 6 (some .boolean) false [] m_X4_holdsFor := m_good_of o_X4_holdsFor
set_option maxRecDepth 100000 in
theorem o_X4_owedFor : m_lm 4 cX4_owedFor 4 (some .int) false [] m_X4_owedFor = true := by decide +kernel
theorem g_X4_owedFor : m_good 4 cX4_owedFor 4 (some .int) false [] m_X4_owedFor := m_good_of o_X4_owedFor
set_option maxRecDepth 100000 in
theorem o_X4_claimFor : m_lm 4 cX4_claimFor 5 (some .int) false [] m_X4_claimFor = true := by decide +kernel
theorem g_X4_claimFor : m_good 4 cX4_claimFor 5 (some .int) false [] m_X4_claimFor := m_good_of o_X4_claimFor
set_option maxRecDepth 100000 in
theorem o_X4_allows : m_lm 4 cX4_allows 4 (some .boolean) false [] m_X4_allows = true := by decide +kernel
theorem g_X4_allows : m_good 4 cX4_allows 4 (some .boolean) false [] m_X4_allows := m_good_of o_X4_allows
set_option maxRecDepth 100000 in
theorem o_X4_doubles : m_lm 4 cX4_doubles 3 (some .boolean) false [] m_X4_doubles = true := by decide +kernel
theorem g_X4_doubles : m_good 4 cX4_doubles 3 (some .boolean) false [] m_X4_doubles := m_good_of o_X4_doubles
set_option maxRecDepth 100000 in
theorem o_X4_isFor : m_lm 4 cX4_isFor 4 (some .boolean) false [] m_X4_isFor = true := by decide +kernel
theorem g_X4_isFor : m_good 4 cX4_isFor 4 (some .boolean) false [] m_X4_isFor := m_good_of o_X4_isFor
set_option maxRecDepth 100000 in
theorem o_X4_has : m_lm 4 cX4_has 2 (some .boolean) false [] m_X4_has = true := by decide +kernel
theorem g_X4_has : m_good 4 cX4_has 2 (some .boolean) false [] m_X4_has := m_good_of o_X4_has
set_option maxRecDepth 100000 in
theorem o_X4_work : m_lm 4 cX4_work 6 (some .int) false [] m_X4_work = true := by decide +kernel
theorem g_X4_work : m_good 4 cX4_work 6 (some .int) false [] m_X4_work := m_good_of o_X4_work
set_option maxRecDepth 100000 in
theorem o_X4_join : m_lm 4 cX4_join 3 (some .int) false [] m_X4_join = true := by decide +kernel
theorem g_X4_join : m_good 4 cX4_join 3 (some .int) false [] m_X4_join := m_good_of o_X4_join
set_option maxRecDepth 100000 in
theorem o_X5_init : m_lm 5 cX5_init 1 none true [] m_X5_init = true := by decide +kernel
theorem g_X5_init : m_good 5 cX5_init 1 none true [] m_X5_init := m_good_of o_X5_init
set_option maxRecDepth 100000 in
theorem o_X5_readLaw : m_lm 5 cX5_readLaw 6 (some .int) false [] m_X5_readLaw = true := by decide +kernel
theorem g_X5_readLaw : m_good 5 cX5_readLaw 6 (some .int) false [] m_X5_readLaw := m_good_of o_X5_readLaw
set_option maxRecDepth 100000 in
theorem o_X5_readClause : m_lm 5 cX5_readClause 4 (some .boolean) false [] m_X5_readClause = true := by decide +kernel
theorem g_X5_readClause : m_good 5 cX5_readClause 4 (some .boolean) false [] m_X5_readClause := m_good_of o_X5_readClause
set_option maxRecDepth 100000 in
theorem o_X5_readMixing : m_lm 5 cX5_readMixing 2 (some .boolean) false [] m_X5_readMixing = true := by decide +kernel
theorem g_X5_readMixing : m_good 5 cX5_readMixing 2 (some .boolean) false [] m_X5_readMixing := m_good_of o_X5_readMixing
set_option maxRecDepth 100000 in
theorem o_X5_spare : m_lm 5 cX5_spare 1 (some .boolean) false [] m_X5_spare = true := by decide +kernel
theorem g_X5_spare : m_good 5 cX5_spare 1 (some .boolean) false [] m_X5_spare := m_good_of o_X5_spare
set_option maxRecDepth 100000 in
theorem o_X5_readHarms : m_lm 5 cX5_readHarms 3 (some .boolean) false [] m_X5_readHarms = true := by decide +kernel
theorem g_X5_readHarms : m_good 5 cX5_readHarms 3 (some .boolean) false [] m_X5_readHarms := m_good_of o_X5_readHarms
set_option maxRecDepth 100000 in
theorem o_X5_readHarm : m_lm 5 cX5_readHarm 2 (some .boolean) false [] m_X5_readHarm = true := by decide +kernel
theorem g_X5_readHarm : m_good 5 cX5_readHarm 2 (some .boolean) false [] m_X5_readHarm := m_good_of o_X5_readHarm
set_option maxRecDepth 100000 in
theorem o_X5_readTerms : m_lm 5 cX5_readTerms 3 (some .boolean) false [] m_X5_readTerms = true := by decide +kernel
theorem g_X5_readTerms : m_good 5 cX5_readTerms 3 (some .boolean) false [] m_X5_readTerms := m_good_of o_X5_readTerms
set_option maxRecDepth 100000 in
theorem o_X5_readTerm : m_lm 5 cX5_readTerm 1 (some .boolean) false [] m_X5_readTerm = true := by decide +kernel
theorem g_X5_readTerm : m_good 5 cX5_readTerm 1 (some .boolean) false [] m_X5_readTerm := m_good_of o_X5_readTerm
set_option maxRecDepth 100000 in
theorem o_X5_readEither : m_lm 5 cX5_readEither 3 (some .boolean) false [] m_X5_readEither = true := by decide +kernel
theorem g_X5_readEither : m_good 5 cX5_readEither 3 (some .boolean) false [] m_X5_readEither := m_good_of o_X5_readEither
set_option maxRecDepth 100000 in
theorem o_X5_readBoth : m_lm 5 cX5_readBoth 3 (some .boolean) false [] m_X5_readBoth = true := by decide +kernel
theorem g_X5_readBoth : m_good 5 cX5_readBoth 3 (some .boolean) false [] m_X5_readBoth := m_good_of o_X5_readBoth
set_option maxRecDepth 100000 in
theorem o_X5_readCondition : m_lm 5 cX5_readCondition 3 (some .boolean) false [] m_X5_readCondition = true := by decide +kernel
theorem g_X5_readCondition : m_good 5 cX5_readCondition 3 (some .boolean) false [] m_X5_readCondition := m_good_of o_X5_readCondition
set_option maxRecDepth 100000 in
theorem o_X5_readNot : m_lm 5 cX5_readNot 1 (some .boolean) false [] m_X5_readNot = true := by decide +kernel
theorem g_X5_readNot : m_good 5 cX5_readNot 1 (some .boolean) false [] m_X5_readNot := m_good_of o_X5_readNot
set_option maxRecDepth 100000 in
theorem o_X5_takeComparison : m_lm 5 cX5_takeComparison 1 (some .boolean) false [] m_X5_takeComparison = true := by decide +kernel
theorem g_X5_takeComparison : m_good 5 cX5_takeComparison 1 (some .boolean) false [] m_X5_takeComparison := m_good_of o_X5_takeComparison
set_option maxRecDepth 100000 in
theorem o_X5_readSum : m_lm 5 cX5_readSum 4 (some .boolean) false [] m_X5_readSum = true := by decide +kernel
theorem g_X5_readSum : m_good 5 cX5_readSum 4 (some .boolean) false [] m_X5_readSum := m_good_of o_X5_readSum
set_option maxRecDepth 100000 in
theorem o_X5_readProduct : m_lm 5 cX5_readProduct 4 (some .boolean) false [] m_X5_readProduct = true := by decide +kernel
theorem g_X5_readProduct : m_good 5 cX5_readProduct 4 (some .boolean) false [] m_X5_readProduct := m_good_of o_X5_readProduct
set_option maxRecDepth 100000 in
theorem o_X5_readUnit : m_lm 5 cX5_readUnit 3 (some .boolean) false [] m_X5_readUnit = true := by decide +kernel
theorem g_X5_readUnit : m_good 5 cX5_readUnit 3 (some .boolean) false [] m_X5_readUnit := m_good_of o_X5_readUnit
set_option maxRecDepth 100000 in
theorem o_X5_readNumber : m_lm 5 cX5_readNumber 1 (some .boolean) false [] m_X5_readNumber = true := by decide +kernel
theorem g_X5_readNumber : m_good 5 cX5_readNumber 1 (some .boolean) false [] m_X5_readNumber := m_good_of o_X5_readNumber
set_option maxRecDepth 100000 in
theorem o_X5_readChoice : m_lm 5 cX5_readChoice 3 (some .boolean) false [] m_X5_readChoice = true := by decide +kernel
theorem g_X5_readChoice : m_good 5 cX5_readChoice 3 (some .boolean) false [] m_X5_readChoice := m_good_of o_X5_readChoice
set_option maxRecDepth 100000 in
theorem o_X5_enter : m_lm 5 cX5_enter 1 (some .boolean) false [] m_X5_enter = true := by decide +kernel
theorem g_X5_enter : m_good 5 cX5_enter 1 (some .boolean) false [] m_X5_enter := m_good_of o_X5_enter
set_option maxRecDepth 100000 in
theorem o_X5_leave : m_lm 5 cX5_leave 2 (some .boolean) false [] m_X5_leave = true := by decide +kernel
theorem g_X5_leave : m_good 5 cX5_leave 2 (some .boolean) false [] m_X5_leave := m_good_of o_X5_leave
set_option maxRecDepth 100000 in
theorem o_X5_take : m_lm 5 cX5_take 2 (some .boolean) false [] m_X5_take = true := by decide +kernel
theorem g_X5_take : m_good 5 cX5_take 2 (some .boolean) false [] m_X5_take := m_good_of o_X5_take
set_option maxRecDepth 100000 in
theorem o_X5_takeWord : m_lm 5 cX5_takeWord 2 (some .boolean) false [] m_X5_takeWord = true := by decide +kernel
theorem g_X5_takeWord : m_good 5 cX5_takeWord 2 (some .boolean) false [] m_X5_takeWord := m_good_of o_X5_takeWord
set_option maxRecDepth 100000 in
theorem o_X5_isNumber : m_lm 5 cX5_isNumber 3 (some .boolean) false [] m_X5_isNumber = true := by decide +kernel
theorem g_X5_isNumber : m_good 5 cX5_isNumber 3 (some .boolean) false [] m_X5_isNumber := m_good_of o_X5_isNumber
set_option maxRecDepth 100000 in
theorem o_X5_fail : m_lm 5 cX5_fail 2 (some .boolean) false [] m_X5_fail = true := by decide +kernel
theorem g_X5_fail : m_good 5 cX5_fail 2 (some .boolean) false [] m_X5_fail := m_good_of o_X5_fail
set_option maxRecDepth 100000 in
theorem o_X5_nextToken : m_lm 5 cX5_nextToken 1 none false [] m_X5_nextToken = true := by decide +kernel
theorem g_X5_nextToken : m_good 5 cX5_nextToken 1 none false [] m_X5_nextToken := m_good_of o_X5_nextToken
set_option maxRecDepth 100000 in
theorem o_X5_isLetter : m_lm 5 cX5_isLetter 1 (some .boolean) false [] m_X5_isLetter = true := by decide +kernel
theorem g_X5_isLetter : m_good 5 cX5_isLetter 1 (some .boolean) false [] m_X5_isLetter := m_good_of o_X5_isLetter
set_option maxRecDepth 100000 in
theorem o_X5_isDigit : m_lm 5 cX5_isDigit 1 (some .boolean) false [] m_X5_isDigit = true := by decide +kernel
theorem g_X5_isDigit : m_good 5 cX5_isDigit 1 (some .boolean) false [] m_X5_isDigit := m_good_of o_X5_isDigit
set_option maxRecDepth 100000 in
theorem o_X5_isWord : m_lm 5 cX5_isWord 2 (some .boolean) false [] m_X5_isWord = true := by decide +kernel
theorem g_X5_isWord : m_good 5 cX5_isWord 2 (some .boolean) false [] m_X5_isWord := m_good_of o_X5_isWord
set_option maxRecDepth 100000 in
theorem o_X5_wordOf : m_lm 5 cX5_wordOf 5 (some .int) false [] m_X5_wordOf = true := by decide +kernel
theorem g_X5_wordOf : m_good 5 cX5_wordOf 5 (some .int) false [] m_X5_wordOf := m_good_of o_X5_wordOf
set_option maxRecDepth 100000 in
theorem o_X5_isSame : m_lm 5 cX5_isSame 5 (some .boolean) false [] m_X5_isSame = true := by decide +kernel
theorem g_X5_isSame : m_good 5 cX5_isSame 5 (some .boolean) false [] m_X5_isSame := m_good_of o_X5_isSame
set_option maxRecDepth 100000 in
theorem o_X5_bitsOf : m_lm 5 cX5_bitsOf 2 (some .int) false [] m_X5_bitsOf = true := by decide +kernel
theorem g_X5_bitsOf : m_good 5 cX5_bitsOf 2 (some .int) false [] m_X5_bitsOf := m_good_of o_X5_bitsOf
set_option maxRecDepth 100000 in
theorem o_X6_init : m_lm 6 cX6_init 1 none true [] m_X6_init = true := by decide +kernel
theorem g_X6_init : m_good 6 cX6_init 1 none true [] m_X6_init := m_good_of o_X6_init
set_option maxRecDepth 100000 in
theorem o_X6_setTo : m_lm 6 cX6_setTo 2 none false [] m_X6_setTo = true := by decide +kernel
theorem g_X6_setTo : m_good 6 cX6_setTo 2 none false [] m_X6_setTo := m_good_of o_X6_setTo
set_option maxRecDepth 100000 in
theorem o_X7_init : m_lm 7 cX7_init 2 none true [] m_X7_init = true := by decide +kernel
theorem g_X7_init : m_good 7 cX7_init 2 none true [] m_X7_init := m_good_of o_X7_init
set_option maxRecDepth 100000 in
theorem o_X7_feed : m_lm 7 cX7_feed 6 (some .int) false [] m_X7_feed = true := by decide +kernel
theorem g_X7_feed : m_good 7 cX7_feed 6 (some .int) false [] m_X7_feed := m_good_of o_X7_feed
set_option maxRecDepth 100000 in
theorem o_X7_law : m_lm 7 cX7_law 3 (some .int) false [] m_X7_law = true := by decide +kernel
theorem g_X7_law : m_good 7 cX7_law 3 (some .int) false [] m_X7_law := m_good_of o_X7_law
set_option maxRecDepth 100000 in
theorem o_X7_fault : m_lm 7 cX7_fault 1 (some .int) false [] m_X7_fault = true := by decide +kernel
theorem g_X7_fault : m_good 7 cX7_fault 1 (some .int) false [] m_X7_fault := m_good_of o_X7_fault
set_option maxRecDepth 100000 in
theorem o_X7_force : m_lm 7 cX7_force 3 (some .int) false [] m_X7_force = true := by decide +kernel
theorem g_X7_force : m_good 7 cX7_force 3 (some .int) false [] m_X7_force := m_good_of o_X7_force
set_option maxRecDepth 100000 in
theorem o_X7_words : m_lm 7 cX7_words 9 (some .int) false [] m_X7_words = true := by decide +kernel
theorem g_X7_words : m_good 7 cX7_words 9 (some .int) false [] m_X7_words := m_good_of o_X7_words
set_option maxRecDepth 100000 in
theorem o_X7_lets : m_lm 7 cX7_lets 4 (some .boolean) false [] m_X7_lets = true := by decide +kernel
theorem g_X7_lets : m_good 7 cX7_lets 4 (some .boolean) false [] m_X7_lets := m_good_of o_X7_lets
set_option maxRecDepth 100000 in
theorem o_X7_pass : m_lm 7 cX7_pass 7 (some .int) false [] m_X7_pass = true := by decide +kernel
theorem g_X7_pass : m_good 7 cX7_pass 7 (some .int) false [] m_X7_pass := m_good_of o_X7_pass
set_option maxRecDepth 100000 in
theorem o_X7_hand : m_lm 7 cX7_hand 3 (some .int) false [] m_X7_hand = true := by decide +kernel
theorem g_X7_hand : m_good 7 cX7_hand 3 (some .int) false [] m_X7_hand := m_good_of o_X7_hand
set_option maxRecDepth 100000 in
theorem o_X7_value : m_lm 7 cX7_value 3 (some .int) false [] m_X7_value = true := by decide +kernel
theorem g_X7_value : m_good 7 cX7_value 3 (some .int) false [] m_X7_value := m_good_of o_X7_value
set_option maxRecDepth 100000 in
theorem o_X7_purse : m_lm 7 cX7_purse 4 (some .int) false [] m_X7_purse = true := by decide +kernel
theorem g_X7_purse : m_good 7 cX7_purse 4 (some .int) false [] m_X7_purse := m_good_of o_X7_purse
set_option maxRecDepth 100000 in
theorem o_X7_fact : m_lm 7 cX7_fact 5 (some .boolean) false [] m_X7_fact = true := by decide +kernel
theorem g_X7_fact : m_good 7 cX7_fact 5 (some .boolean) false [] m_X7_fact := m_good_of o_X7_fact
set_option maxRecDepth 100000 in
theorem o_X7_harm : m_lm 7 cX7_harm 4 (some .int) false [] m_X7_harm = true := by decide +kernel
theorem g_X7_harm : m_good 7 cX7_harm 4 (some .int) false [] m_X7_harm := m_good_of o_X7_harm
set_option maxRecDepth 100000 in
theorem o_X7_holder : m_lm 7 cX7_holder 1 (some .int) false [] m_X7_holder = true := by decide +kernel
theorem g_X7_holder : m_good 7 cX7_holder 1 (some .int) false [] m_X7_holder := m_good_of o_X7_holder
set_option maxRecDepth 100000 in
theorem o_X7_name : m_lm 7 cX7_name 4 (some .int) false [] m_X7_name = true := by decide +kernel
theorem g_X7_name : m_good 7 cX7_name 4 (some .int) false [] m_X7_name := m_good_of o_X7_name
set_option maxRecDepth 100000 in
theorem o_X7_claim : m_lm 7 cX7_claim 2 (some .int) false [] m_X7_claim = true := by decide +kernel
theorem g_X7_claim : m_good 7 cX7_claim 2 (some .int) false [] m_X7_claim := m_good_of o_X7_claim
set_option maxRecDepth 100000 in
theorem o_X7_whom : m_lm 7 cX7_whom 2 (some .int) false [] m_X7_whom = true := by decide +kernel
theorem g_X7_whom : m_good 7 cX7_whom 2 (some .int) false [] m_X7_whom := m_good_of o_X7_whom
set_option maxRecDepth 100000 in
theorem o_X7_pays : m_lm 7 cX7_pays 2 (some .int) false [] m_X7_pays = true := by decide +kernel
theorem g_X7_pays : m_good 7 cX7_pays 2 (some .int) false [] m_X7_pays := m_good_of o_X7_pays
set_option maxRecDepth 100000 in
theorem o_X7_bears : m_lm 7 cX7_bears 2 (some .int) false [] m_X7_bears = true := by decide +kernel
theorem g_X7_bears : m_good 7 cX7_bears 2 (some .int) false [] m_X7_bears := m_good_of o_X7_bears
set_option maxRecDepth 100000 in
theorem o_X7_must : m_lm 7 cX7_must 2 (some .boolean) false [] m_X7_must = true := by decide +kernel
theorem g_X7_must : m_good 7 cX7_must 2 (some .boolean) false [] m_X7_must := m_good_of o_X7_must
set_option maxRecDepth 100000 in
theorem o_X7_frees : m_lm 7 cX7_frees 3 (some .int) false [] m_X7_frees = true := by decide +kernel
theorem g_X7_frees : m_good 7 cX7_frees 3 (some .int) false [] m_X7_frees := m_good_of o_X7_frees
set_option maxRecDepth 100000 in
theorem o_X7_question : m_lm 7 cX7_question 4 (some .int) false [] m_X7_question = true := by decide +kernel
theorem g_X7_question : m_good 7 cX7_question 4 (some .int) false [] m_X7_question := m_good_of o_X7_question
set_option maxRecDepth 100000 in
theorem o_X7_inCase : m_lm 7 cX7_inCase 3 (some .int) false [] m_X7_inCase = true := by decide +kernel
theorem g_X7_inCase : m_good 7 cX7_inCase 3 (some .int) false [] m_X7_inCase := m_good_of o_X7_inCase
set_option maxRecDepth 100000 in
theorem o_X7_sure : m_lm 7 cX7_sure 3 (some .int) false [] m_X7_sure = true := by decide +kernel
theorem g_X7_sure : m_good 7 cX7_sure 3 (some .int) false [] m_X7_sure := m_good_of o_X7_sure
set_option maxRecDepth 100000 in
theorem o_X7_cases : m_lm 7 cX7_cases 2 (some .int) false [] m_X7_cases = true := by decide +kernel
theorem g_X7_cases : m_good 7 cX7_cases 2 (some .int) false [] m_X7_cases := m_good_of o_X7_cases
set_option maxRecDepth 100000 in
theorem o_X7_hangs : m_lm 7 cX7_hangs 4 (some .int) false [] m_X7_hangs = true := by decide +kernel
theorem g_X7_hangs : m_good 7 cX7_hangs 4 (some .int) false [] m_X7_hangs := m_good_of o_X7_hangs
set_option maxRecDepth 100000 in
theorem o_X7_least : m_lm 7 cX7_least 3 (some .int) false [] m_X7_least = true := by decide +kernel
theorem g_X7_least : m_good 7 cX7_least 3 (some .int) false [] m_X7_least := m_good_of o_X7_least
set_option maxRecDepth 100000 in
theorem o_X7_find : m_lm 7 cX7_find 4 (some .int) false [] m_X7_find = true := by decide +kernel
theorem g_X7_find : m_good 7 cX7_find 4 (some .int) false [] m_X7_find := m_good_of o_X7_find
set_option maxRecDepth 100000 in
theorem o_X7_title : m_lm 7 cX7_title 1 (some .int) false [] m_X7_title = true := by decide +kernel
theorem g_X7_title : m_good 7 cX7_title 1 (some .int) false [] m_X7_title := m_good_of o_X7_title
set_option maxRecDepth 100000 in
theorem o_X7_found : m_lm 7 cX7_found 4 (some .int) false [] m_X7_found = true := by decide +kernel
theorem g_X7_found : m_good 7 cX7_found 4 (some .int) false [] m_X7_found := m_good_of o_X7_found
set_option maxRecDepth 100000 in
theorem o_X7_put : m_lm 7 cX7_put 3 (some .int) false [] m_X7_put = true := by decide +kernel
theorem g_X7_put : m_good 7 cX7_put 3 (some .int) false [] m_X7_put := m_good_of o_X7_put
set_option maxRecDepth 100000 in
theorem o_X7_share : m_lm 7 cX7_share 4 (some .int) false [] m_X7_share = true := by decide +kernel
theorem g_X7_share : m_good 7 cX7_share 4 (some .int) false [] m_X7_share := m_good_of o_X7_share
set_option maxRecDepth 100000 in
theorem o_X7_judge : m_lm 7 cX7_judge 4 (some .int) false [] m_X7_judge = true := by decide +kernel
theorem g_X7_judge : m_good 7 cX7_judge 4 (some .int) false [] m_X7_judge := m_good_of o_X7_judge
set_option maxRecDepth 100000 in
theorem o_X7_wrong : m_lm 7 cX7_wrong 2 (some .int) false [] m_X7_wrong = true := by decide +kernel
theorem g_X7_wrong : m_good 7 cX7_wrong 2 (some .int) false [] m_X7_wrong := m_good_of o_X7_wrong
set_option maxRecDepth 100000 in
theorem o_X7_parting : m_lm 7 cX7_parting 6 (some .int) false [] m_X7_parting = true := by decide +kernel
theorem g_X7_parting : m_good 7 cX7_parting 6 (some .int) false [] m_X7_parting := m_good_of o_X7_parting
set_option maxRecDepth 100000 in
theorem o_X7_beside : m_lm 7 cX7_beside 3 (some .int) false [] m_X7_beside = true := by decide +kernel
theorem g_X7_beside : m_good 7 cX7_beside 3 (some .int) false [] m_X7_beside := m_good_of o_X7_beside
set_option maxRecDepth 100000 in
theorem o_X7_image : m_lm 7 cX7_image 1 (some .int) false [] m_X7_image = true := by decide +kernel
theorem g_X7_image : m_good 7 cX7_image 1 (some .int) false [] m_X7_image := m_good_of o_X7_image
set_option maxRecDepth 100000 in
theorem o_X7_restore : m_lm 7 cX7_restore 1 (some .int) false [] m_X7_restore = true := by decide +kernel
theorem g_X7_restore : m_good 7 cX7_restore 1 (some .int) false [] m_X7_restore := m_good_of o_X7_restore
set_option maxRecDepth 100000 in
theorem o_X7_count : m_lm 7 cX7_count 2 (some .int) false [] m_X7_count = true := by decide +kernel
theorem g_X7_count : m_good 7 cX7_count 2 (some .int) false [] m_X7_count := m_good_of o_X7_count
set_option maxRecDepth 100000 in
theorem o_X7_need : m_lm 7 cX7_need 1 none false [] m_X7_need = true := by decide +kernel
theorem g_X7_need : m_good 7 cX7_need 1 none false [] m_X7_need := m_good_of o_X7_need
set_option maxRecDepth 100000 in
theorem o_X7_needHand : m_lm 7 cX7_needHand 2 none false [] m_X7_needHand = true := by decide +kernel
theorem g_X7_needHand : m_good 7 cX7_needHand 2 none false [] m_X7_needHand := m_good_of o_X7_needHand
set_option maxRecDepth 100000 in
theorem o_X7_isWithin : m_lm 7 cX7_isWithin 2 (some .boolean) false [] m_X7_isWithin = true := by decide +kernel
theorem g_X7_isWithin : m_good 7 cX7_isWithin 2 (some .boolean) false [] m_X7_isWithin := m_good_of o_X7_isWithin
set_option maxRecDepth 100000 in
theorem o_X7_isLaw : m_lm 7 cX7_isLaw 2 (some .boolean) false [] m_X7_isLaw = true := by decide +kernel
theorem g_X7_isLaw : m_good 7 cX7_isLaw 2 (some .boolean) false [] m_X7_isLaw := m_good_of o_X7_isLaw
set_option maxRecDepth 100000 in
theorem o_X7_lawInForce : m_lm 7 cX7_lawInForce 1 (some (.object RX4)) false [] m_X7_lawInForce = true := by decide +kernel
theorem g_X7_lawInForce : m_good 7 cX7_lawInForce 1 (some (.object RX4)) false [] m_X7_lawInForce := m_good_of o_X7_lawInForce
set_option maxRecDepth 100000 in
theorem o_X7_layOnTape : m_lm 7 cX7_layOnTape 3 none false [] m_X7_layOnTape = true := by decide +kernel
theorem g_X7_layOnTape : m_good 7 cX7_layOnTape 3 none false [] m_X7_layOnTape := m_good_of o_X7_layOnTape
set_option maxRecDepth 100000 in
theorem o_X7_keepingOfCase : m_lm 7 cX7_keepingOfCase 1 (some .int) false [] m_X7_keepingOfCase = true := by decide +kernel
theorem g_X7_keepingOfCase : m_good 7 cX7_keepingOfCase 1 (some .int) false [] m_X7_keepingOfCase := m_good_of o_X7_keepingOfCase
set_option maxRecDepth 100000 in
theorem o_X7_harmOfCase : m_lm 7 cX7_harmOfCase 1 (some .int) false [] m_X7_harmOfCase = true := by decide +kernel
theorem g_X7_harmOfCase : m_good 7 cX7_harmOfCase 1 (some .int) false [] m_X7_harmOfCase := m_good_of o_X7_harmOfCase
set_option maxRecDepth 100000 in
theorem o_X7_nameCase : m_lm 7 cX7_nameCase 6 none false [] m_X7_nameCase = true := by decide +kernel
theorem g_X7_nameCase : m_good 7 cX7_nameCase 6 none false [] m_X7_nameCase := m_good_of o_X7_nameCase
set_option maxRecDepth 100000 in
theorem o_X7_allCases : m_lm 7 cX7_allCases 1 (some .int) false [] m_X7_allCases = true := by decide +kernel
theorem g_X7_allCases : m_good 7 cX7_allCases 1 (some .int) false [] m_X7_allCases := m_good_of o_X7_allCases
set_option maxRecDepth 100000 in
theorem o_X7_reckonCases : m_lm 7 cX7_reckonCases 2 none false [] m_X7_reckonCases = true := by decide +kernel
theorem g_X7_reckonCases : m_good 7 cX7_reckonCases 2 none false [] m_X7_reckonCases := m_good_of o_X7_reckonCases
set_option maxRecDepth 100000 in
theorem o_X7_isBurdened : m_lm 7 cX7_isBurdened 3 (some .boolean) false [] m_X7_isBurdened = true := by decide +kernel
theorem g_X7_isBurdened : m_good 7 cX7_isBurdened 3 (some .boolean) false [] m_X7_isBurdened := m_good_of o_X7_isBurdened
set_option maxRecDepth 100000 in
theorem o_X7_burdenedCases : m_lm 7 cX7_burdenedCases 4 (some .int) false [] m_X7_burdenedCases = true := by decide +kernel
theorem g_X7_burdenedCases : m_good 7 cX7_burdenedCases 4 (some .int) false [] m_X7_burdenedCases := m_good_of o_X7_burdenedCases
set_option maxRecDepth 100000 in
theorem o_X7_casesLikeBit : m_lm 7 cX7_casesLikeBit 5 (some .int) false [] m_X7_casesLikeBit = true := by decide +kernel
theorem g_X7_casesLikeBit : m_good 7 cX7_casesLikeBit 5 (some .int) false [] m_X7_casesLikeBit := m_good_of o_X7_casesLikeBit
set_option maxRecDepth 100000 in
theorem o_X7_matters : m_lm 7 cX7_matters 3 (some .boolean) false [] m_X7_matters = true := by decide +kernel
theorem g_X7_matters : m_good 7 cX7_matters 3 (some .boolean) false [] m_X7_matters := m_good_of o_X7_matters
set_option maxRecDepth 100000 in
theorem o_X7_areBorneAlike : m_lm 7 cX7_areBorneAlike 4 (some .boolean) false [] m_X7_areBorneAlike = true := by decide +kernel
theorem g_X7_areBorneAlike : m_good 7 cX7_areBorneAlike 4 (some .boolean) false [] m_X7_areBorneAlike := m_good_of o_X7_areBorneAlike
