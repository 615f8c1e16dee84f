/-! .. of the law -/
set_option maxRecDepth 100000 in
theorem o_L_law : m_lm 9 cL_law 4 (some .int) false [(0, 9, 12, 13)] m_L_law = true := by decide +kernel
theorem g_L_law : m_good 9 cL_law 4 (some .int) false [(0, 9, 12, 13)] m_L_law := m_good_of o_L_law
set_option maxRecDepth 100000 in
theorem o_L_force : m_lm 9 cL_force 4 (some .int) false [(0, 9, 12, 13)] m_L_force = true := by decide +kernel
theorem g_L_force : m_good 9 cL_force 4 (some .int) false [(0, 9, 12, 13)] m_L_force := m_good_of o_L_force
set_option maxRecDepth 100000 in
theorem o_L_words : m_lm 9 cL_words 9 (some .int) false [(0, 18, 21, 13)] m_L_words = true := by decide +kernel
theorem g_L_words : m_good 9 cL_words 9 (some .int) false [(0, 18, 21, 13)] m_L_words := m_good_of o_L_words
set_option maxRecDepth 100000 in
theorem o_L_lets : m_lm 9 cL_lets 6 (some .int) false [(0, 19, 22, 13)] m_L_lets = true := by decide +kernel
theorem g_L_lets : m_good 9 cL_lets 6 (some .int) false [(0, 19, 22, 13)] m_L_lets := m_good_of o_L_lets
set_option maxRecDepth 100000 in
theorem o_L_pass : m_lm 9 cL_pass 8 (some .int) false [(0, 16, 19, 13)] m_L_pass = true := by decide +kernel
theorem g_L_pass : m_good 9 cL_pass 8 (some .int) false [(0, 16, 19, 13)] m_L_pass := m_good_of o_L_pass
set_option maxRecDepth 100000 in
theorem o_L_hand : m_lm 9 cL_hand 5 (some .int) false [(0, 10, 13, 34), (0, 10, 17, 13)] m_L_hand = true := by decide +kernel
theorem g_L_hand : m_good 9 cL_hand 5 (some .int) false [(0, 10, 13, 34), (0, 10, 17, 13)] m_L_hand := m_good_of o_L_hand
set_option maxRecDepth 100000 in
theorem o_L_value : m_lm 9 cL_value 4 (some .int) false [(0, 9, 12, 13)] m_L_value = true := by decide +kernel
theorem g_L_value : m_good 9 cL_value 4 (some .int) false [(0, 9, 12, 13)] m_L_value := m_good_of o_L_value
set_option maxRecDepth 100000 in
theorem o_L_purse : m_lm 9 cL_purse 5 (some .int) false [(0, 10, 13, 34), (0, 10, 17, 13)] m_L_purse = true := by decide +kernel
theorem g_L_purse : m_good 9 cL_purse 5 (some .int) false [(0, 10, 13, 34), (0, 10, 17, 13)] m_L_purse := m_good_of o_L_purse
set_option maxRecDepth 100000 in
theorem o_L_fact : m_lm 9 cL_fact 6 (some .int) false [(0, 19, 22, 34), (0, 19, 26, 13)] m_L_fact = true := by decide +kernel
theorem g_L_fact : m_good 9 cL_fact 6 (some .int) false [(0, 19, 22, 34), (0, 19, 26, 13)] m_L_fact := m_good_of o_L_fact
set_option maxRecDepth 100000 in
theorem o_L_harm : m_lm 9 cL_harm 5 (some .int) false [(0, 10, 13, 13)] m_L_harm = true := by decide +kernel
theorem g_L_harm : m_good 9 cL_harm 5 (some .int) false [(0, 10, 13, 13)] m_L_harm := m_good_of o_L_harm
set_option maxRecDepth 100000 in
theorem o_L_name : m_lm 9 cL_name 5 (some .int) false [(0, 10, 13, 34), (0, 10, 17, 13)] m_L_name = true := by decide +kernel
theorem g_L_name : m_good 9 cL_name 5 (some .int) false [(0, 10, 13, 34), (0, 10, 17, 13)] m_L_name := m_good_of o_L_name
set_option maxRecDepth 100000 in
theorem o_L_claim : m_lm 9 cL_claim 4 (some .int) false [(0, 9, 12, 34)] m_L_claim = true := by decide +kernel
theorem g_L_claim : m_good 9 cL_claim 4 (some .int) false [(0, 9, 12, 34)] m_L_claim := m_good_of o_L_claim
set_option maxRecDepth 100000 in
theorem o_L_whom : m_lm 9 cL_whom 4 (some .int) false [(0, 9, 12, 34)] m_L_whom = true := by decide +kernel
theorem g_L_whom : m_good 9 cL_whom 4 (some .int) false [(0, 9, 12, 34)] m_L_whom := m_good_of o_L_whom
set_option maxRecDepth 100000 in
theorem o_L_pays : m_lm 9 cL_pays 4 (some .int) false [(0, 9, 12, 34)] m_L_pays = true := by decide +kernel
theorem g_L_pays : m_good 9 cL_pays 4 (some .int) false [(0, 9, 12, 34)] m_L_pays := m_good_of o_L_pays
set_option maxRecDepth 100000 in
theorem o_L_bears : m_lm 9 cL_bears 4 (some .int) false [(0, 9, 12, 34)] m_L_bears = true := by decide +kernel
theorem g_L_bears : m_good 9 cL_bears 4 (some .int) false [(0, 9, 12, 34)] m_L_bears := m_good_of o_L_bears
set_option maxRecDepth 100000 in
theorem o_L_must : m_lm 9 cL_must 4 (some .int) false [(0, 16, 19, 34)] m_L_must = true := by decide +kernel
theorem g_L_must : m_good 9 cL_must 4 (some .int) false [(0, 16, 19, 34)] m_L_must := m_good_of o_L_must
set_option maxRecDepth 100000 in
theorem o_L_frees : m_lm 9 cL_frees 4 (some .int) false [(0, 9, 12, 34)] m_L_frees = true := by decide +kernel
theorem g_L_frees : m_good 9 cL_frees 4 (some .int) false [(0, 9, 12, 34)] m_L_frees := m_good_of o_L_frees
set_option maxRecDepth 100000 in
theorem o_L_question : m_lm 9 cL_question 6 (some .int) false [(0, 12, 15, 34), (0, 12, 19, 13)] m_L_question = true := by decide +kernel
theorem g_L_question : m_good 9 cL_question 6 (some .int) false [(0, 12, 15, 34), (0, 12, 19, 13)] m_L_question := m_good_of o_L_question
set_option maxRecDepth 100000 in
theorem o_L_inCase : m_lm 9 cL_inCase 5 (some .int) false [(0, 10, 13, 34), (0, 10, 17, 13)] m_L_inCase = true := by decide +kernel
theorem g_L_inCase : m_good 9 cL_inCase 5 (some .int) false [(0, 10, 13, 34), (0, 10, 17, 13)] m_L_inCase := m_good_of o_L_inCase
set_option maxRecDepth 100000 in
theorem o_L_sure : m_lm 9 cL_sure 4 (some .int) false [(0, 9, 12, 34)] m_L_sure = true := by decide +kernel
theorem g_L_sure : m_good 9 cL_sure 4 (some .int) false [(0, 9, 12, 34)] m_L_sure := m_good_of o_L_sure
set_option maxRecDepth 100000 in
theorem o_L_cases : m_lm 9 cL_cases 4 (some .int) false [(0, 9, 12, 34)] m_L_cases = true := by decide +kernel
theorem g_L_cases : m_good 9 cL_cases 4 (some .int) false [(0, 9, 12, 34)] m_L_cases := m_good_of o_L_cases
set_option maxRecDepth 100000 in
theorem o_L_hangs : m_lm 9 cL_hangs 4 (some .int) false [(0, 9, 12, 34)] m_L_hangs = true := by decide +kernel
theorem g_L_hangs : m_good 9 cL_hangs 4 (some .int) false [(0, 9, 12, 34)] m_L_hangs := m_good_of o_L_hangs
set_option maxRecDepth 100000 in
theorem o_L_find : m_lm 9 cL_find 5 (some .int) false [(0, 10, 13, 34)] m_L_find = true := by decide +kernel
theorem g_L_find : m_good 9 cL_find 5 (some .int) false [(0, 10, 13, 34)] m_L_find := m_good_of o_L_find
set_option maxRecDepth 100000 in
theorem o_L_found : m_lm 9 cL_found 5 (some .int) false [(0, 10, 13, 34), (0, 10, 17, 13)] m_L_found = true := by decide +kernel
theorem g_L_found : m_good 9 cL_found 5 (some .int) false [(0, 10, 13, 34), (0, 10, 17, 13)] m_L_found := m_good_of o_L_found
set_option maxRecDepth 100000 in
theorem o_L_put : m_lm 9 cL_put 5 (some .int) false [(0, 10, 13, 13)] m_L_put = true := by decide +kernel
theorem g_L_put : m_good 9 cL_put 5 (some .int) false [(0, 10, 13, 13)] m_L_put := m_good_of o_L_put
set_option maxRecDepth 100000 in
theorem o_L_share : m_lm 9 cL_share 5 (some .int) false [(0, 10, 13, 13)] m_L_share = true := by decide +kernel
theorem g_L_share : m_good 9 cL_share 5 (some .int) false [(0, 10, 13, 13)] m_L_share := m_good_of o_L_share
set_option maxRecDepth 100000 in
theorem o_L_judge : m_lm 9 cL_judge 5 (some .int) false [(0, 10, 13, 34), (0, 10, 17, 13)] m_L_judge = true := by decide +kernel
theorem g_L_judge : m_good 9 cL_judge 5 (some .int) false [(0, 10, 13, 34), (0, 10, 17, 13)] m_L_judge := m_good_of o_L_judge
set_option maxRecDepth 100000 in
theorem o_L_parting : m_lm 9 cL_parting 5 (some .int) false [(0, 10, 13, 13)] m_L_parting = true := by decide +kernel
theorem g_L_parting : m_good 9 cL_parting 5 (some .int) false [(0, 10, 13, 13)] m_L_parting := m_good_of o_L_parting
set_option maxRecDepth 100000 in
theorem o_L_beside : m_lm 9 cL_beside 5 (some .int) false [(0, 10, 13, 34), (0, 10, 17, 13)] m_L_beside = true := by decide +kernel
theorem g_L_beside : m_good 9 cL_beside 5 (some .int) false [(0, 10, 13, 34), (0, 10, 17, 13)] m_L_beside := m_good_of o_L_beside
set_option maxRecDepth 100000 in
theorem o_L_law_0 : m_li 9 cL_law_ 7 (some .boolean) false m_L_law_.1 0 ((m_L_law_.1.drop 0).take 49) = true := by decide +kernel
set_option maxRecDepth 100000 in
theorem o_L_law_1 : m_li 9 cL_law_ 7 (some .boolean) false m_L_law_.1 49 ((m_L_law_.1.drop 49).take 49) = true := by decide +kernel
set_option maxRecDepth 100000 in
theorem o_L_law_2 : m_li 9 cL_law_ 7 (some .boolean) false m_L_law_.1 98 ((m_L_law_.1.drop 98).take 49) = true := by decide +kernel
set_option maxRecDepth 100000 in
theorem o_L_law_3 : m_li 9 cL_law_ 7 (some .boolean) false m_L_law_.1 147 ((m_L_law_.1.drop 147).take 49) = true := by decide +kernel
set_option maxRecDepth 100000 in
theorem o_L_law_4 : m_li 9 cL_law_ 7 (some .boolean) false m_L_law_.1 196 ((m_L_law_.1.drop 196).take 49) = true := by decide +kernel
set_option maxRecDepth 100000 in
theorem o_L_law_5 : m_li 9 cL_law_ 7 (some .boolean) false m_L_law_.1 245 ((m_L_law_.1.drop 245).take 49) = true := by decide +kernel
set_option maxRecDepth 100000 in
theorem o_L_law_6 : m_li 9 cL_law_ 7 (some .boolean) false m_L_law_.1 294 ((m_L_law_.1.drop 294).take 49) = true := by decide +kernel
set_option maxRecDepth 100000 in
theorem o_L_law_7 : m_li 9 cL_law_ 7 (some .boolean) false m_L_law_.1 343 ((m_L_law_.1.drop 343).take 49) = true := by decide +kernel
set_option maxRecDepth 100000 in
theorem o_L_law_8 : m_li 9 cL_law_ 7 (some .boolean) false m_L_law_.1 392 ((m_L_law_.1.drop 392).take 49) = true := by decide +kernel
set_option maxRecDepth 100000 in
theorem o_L_law_9 : m_li 9 cL_law_ 7 (some .boolean) false m_L_law_.1 441 ((m_L_law_.1.drop 441).take 49) = true := by decide +kernel
set_option maxRecDepth 100000 in
theorem o_L_law_10 : m_li 9 cL_law_ 7 (some .boolean) false m_L_law_.1 490 ((m_L_law_.1.drop 490).take 49) = true := by decide +kernel
set_option maxRecDepth 100000 in
theorem o_L_law_11 : m_li 9 cL_law_ 7 (some .boolean) false m_L_law_.1 539 ((m_L_law_.1.drop 539).take 49) = true := by decide +kernel
set_option maxRecDepth 100000 in
theorem o_L_law_12 : m_li 9 cL_law_ 7 (some .boolean) false m_L_law_.1 588 ((m_L_law_.1.drop 588).take 49) = true := by decide +kernel
set_option maxRecDepth 100000 in
theorem o_L_law_13 : m_li 9 cL_law_ 7 (some .boolean) false m_L_law_.1 637 ((m_L_law_.1.drop 637).take 49) = true := by decide +kernel
set_option maxRecDepth 100000 in
theorem o_L_law_14 : m_li 9 cL_law_ 7 (some .boolean) false m_L_law_.1 686 ((m_L_law_.1.drop 686).take 49) = true := by decide +kernel
set_option maxRecDepth 100000 in
theorem o_L_law_15 : m_li 9 cL_law_ 7 (some .boolean) false m_L_law_.1 735 ((m_L_law_.1.drop 735).take 49) = true := by decide +kernel
set_option maxRecDepth 100000 in
theorem o_L_law_16 : m_li 9 cL_law_ 7 (some .boolean) false m_L_law_.1 784 ((m_L_law_.1.drop 784).take 49) = true := by decide +kernel
set_option maxRecDepth 100000 in
theorem o_L_law_17 : m_li 9 cL_law_ 7 (some .boolean) false m_L_law_.1 833 ((m_L_law_.1.drop 833).take 49) = true := by decide +kernel
set_option maxRecDepth 100000 in
theorem o_L_law_18 : m_li 9 cL_law_ 7 (some .boolean) false m_L_law_.1 882 ((m_L_law_.1.drop 882).take 49) = true := by decide +kernel
set_option maxRecDepth 100000 in
theorem o_L_law_19 : m_li 9 cL_law_ 7 (some .boolean) false m_L_law_.1 931 ((m_L_law_.1.drop 931).take 49) = true := by decide +kernel
set_option maxRecDepth 100000 in
theorem o_L_law_20 : m_li 9 cL_law_ 7 (some .boolean) false m_L_law_.1 980 ((m_L_law_.1.drop 980).take 49) = true := by decide +kernel
set_option maxRecDepth 100000 in
theorem o_L_law_21 : m_li 9 cL_law_ 7 (some .boolean) false m_L_law_.1 1029 ((m_L_law_.1.drop 1029).take 49) = true := by decide +kernel
set_option maxRecDepth 100000 in
theorem o_L_law_22 : m_li 9 cL_law_ 7 (some .boolean) false m_L_law_.1 1078 ((m_L_law_.1.drop 1078).take 49) = true := by decide +kernel
set_option maxRecDepth 100000 in
theorem o_L_law_23 : m_li 9 cL_law_ 7 (some .boolean) false m_L_law_.1 1127 ((m_L_law_.1.drop 1127).take 49) = true := by decide +kernel
set_option maxRecDepth 100000 in
theorem o_L_law_24 : m_li 9 cL_law_ 7 (some .boolean) false m_L_law_.1 1176 ((m_L_law_.1.drop 1176).take 49) = true := by decide +kernel
set_option maxRecDepth 100000 in
theorem o_L_law_25 : m_li 9 cL_law_ 7 (some .boolean) false m_L_law_.1 1225 ((m_L_law_.1.drop 1225).take 49) = true := by decide +kernel
set_option maxRecDepth 100000 in
theorem o_L_law_26 : m_li 9 cL_law_ 7 (some .boolean) false m_L_law_.1 1274 ((m_L_law_.1.drop 1274).take 49) = true := by decide +kernel
set_option maxRecDepth 100000 in
theorem o_L_law_27 : m_li 9 cL_law_ 7 (some .boolean) false m_L_law_.1 1323 ((m_L_law_.1.drop 1323).take 49) = true := by decide +kernel
set_option maxRecDepth 100000 in
theorem o_L_law_28 : m_li 9 cL_law_ 7 (some .boolean) false m_L_law_.1 1372 ((m_L_law_.1.drop 1372).take 49) = true := by decide +kernel
set_option maxRecDepth 100000 in
theorem o_L_law_29 : m_li 9 cL_law_ 7 (some .boolean) false m_L_law_.1 1421 ((m_L_law_.1.drop 1421).take 49) = true := by decide +kernel
set_option maxRecDepth 100000 in
theorem o_L_law_len : m_L_law_.1.length = 1470 := by decide +kernel
theorem m_li_cut {own : Nat} {cd : ByteArray} {mx : Nat} {rt : Option FieldType} {ini : Bool} {L : List (Nat × m_I)} (k S : Nat) (h : m_li own cd mx rt ini L k ((L.drop k).take S) = true) (i : Nat) (q : Nat × m_I) (hq : L[i]? = some q) (h1 : k ≤ i) (h2 : i < k + S) : m_lk own cd mx rt ini L q.1 i q.2 = true := by
  have h3 := m_li_at _ k h (i - k) q (by rw [List.getElem?_take_of_lt (by omega), List.getElem?_drop, show k + (i - k) = i by omega]; exact hq)
  rwa [show k + (i - k) = i by omega] at h3
theorem g_L_law_ : m_good 9 cL_law_ 7 (some .boolean) false [] m_L_law_ := by
  refine ⟨fun i q hq => ?_, rfl, rfl, rfl, rfl⟩
  have hi : i < 1470 := by
    have := (List.getElem?_eq_some_iff.mp hq).1
    rw [o_L_law_len] at this
    exact this
  by_cases h0 : i < 49
  · exact m_li_cut 0 49 o_L_law_0 i q hq (by omega) (by omega)
  by_cases h1 : i < 98
  · exact m_li_cut 49 49 o_L_law_1 i q hq (by omega) (by omega)
  by_cases h2 : i < 147
  · exact m_li_cut 98 49 o_L_law_2 i q hq (by omega) (by omega)
  by_cases h3 : i < 196
  · exact m_li_cut 147 49 o_L_law_3 i q hq (by omega) (by omega)
  by_cases h4 : i < 245
  · exact m_li_cut 196 49 o_L_law_4 i q hq (by omega) (by omega)
  by_cases h5 : i < 294
  · exact m_li_cut 245 49 o_L_law_5 i q hq (by omega) (by omega)
  by_cases h6 : i < 343
  · exact m_li_cut 294 49 o_L_law_6 i q hq (by omega) (by omega)
  by_cases h7 : i < 392
  · exact m_li_cut 343 49 o_L_law_7 i q hq (by omega) (by omega)
  by_cases h8 : i < 441
  · exact m_li_cut 392 49 o_L_law_8 i q hq (by omega) (by omega)
  by_cases h9 : i < 490
  · exact m_li_cut 441 49 o_L_law_9 i q hq (by omega) (by omega)
  by_cases h10 : i < 539
  · exact m_li_cut 490 49 o_L_law_10 i q hq (by omega) (by omega)
  by_cases h11 : i < 588
  · exact m_li_cut 539 49 o_L_law_11 i q hq (by omega) (by omega)
  by_cases h12 : i < 637
  · exact m_li_cut 588 49 o_L_law_12 i q hq (by omega) (by omega)
  by_cases h13 : i < 686
  · exact m_li_cut 637 49 o_L_law_13 i q hq (by omega) (by omega)
  by_cases h14 : i < 735
  · exact m_li_cut 686 49 o_L_law_14 i q hq (by omega) (by omega)
  by_cases h15 : i < 784
  · exact m_li_cut 735 49 o_L_law_15 i q hq (by omega) (by omega)
  by_cases h16 : i < 833
  · exact m_li_cut 784 49 o_L_law_16 i q hq (by omega) (by omega)
  by_cases h17 : i < 882
  · exact m_li_cut 833 49 o_L_law_17 i q hq (by omega) (by omega)
  by_cases h18 : i < 931
  · exact m_li_cut 882 49 o_L_law_18 i q hq (by omega) (by omega)
  by_cases h19 : i < 980
  · exact m_li_cut 931 49 o_L_law_19 i q hq (by omega) (by omega)
  by_cases h20 : i < 1029
  · exact m_li_cut 980 49 o_L_law_20 i q hq (by omega) (by omega)
  by_cases h21 : i < 1078
  · exact m_li_cut 1029 49 o_L_law_21 i q hq (by omega) (by omega)
  by_cases h22 : i < 1127
  · exact m_li_cut 1078 49 o_L_law_22 i q hq (by omega) (by omega)
  by_cases h23 : i < 1176
  · exact m_li_cut 1127 49 o_L_law_23 i q hq (by omega) (by omega)
  by_cases h24 : i < 1225
  · exact m_li_cut 1176 49 o_L_law_24 i q hq (by omega) (by omega)
  by_cases h25 : i < 1274
  · exact m_li_cut 1225 49 o_L_law_25 i q hq (by omega) (by omega)
  by_cases h26 : i < 1323
  · exact m_li_cut 1274 49 o_L_law_26 i q hq (by omega) (by omega)
  by_cases h27 : i < 1372
  · exact m_li_cut 1323 49 o_L_law_27 i q hq (by omega) (by omega)
  by_cases h28 : i < 1421
  · exact m_li_cut 1372 49 o_L_law_28 i q hq (by omega) (by omega)
  by_cases h29 : i < 1470
  · exact m_li_cut 1421 49 o_L_law_29 i q hq (by omega) (by omega)
  omega
