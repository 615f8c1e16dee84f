/-! METHODS, written by wip/whole/gen_51.py (9). -/
section K9
variable {X : m_X}
theorem md_187 : m_md 187 = m_X8_whom := rfl
noncomputable def f187_11 (s : g_S) (p1 : Int32) (y1 : Int32) : Option (Int32 × g_S) := (g_bd (f134 s y1 1) fun v1 s2 => if v1 = 0 then ((f182 s2 (s2 199 13)).bind fun s5 => if m_in p1 13 = true then some ((s5 239 p1.toNatClampNeg, s5)) else none) else (some ((0, s2))))
theorem P187_11 {d ex : Nat} {s : g_S} {p1 : Int32} {y1 : Int32}   {z : (Int32 × g_S)} (H : f187_11 s p1 y1 = some z) (hd : 81 ≤ d)  : n_R X (d + 1) 187 11 [some (.ref 199), some (.int p1)] [.int y1, .ref 199] (g_M s ex) (g_rSI z ex) := by
  unfold f187_11 at H
  refine g_go 1 md_187 (i1 := 12) rfl ?_
  obtain ⟨v1, s2, hv1, H⟩ := g_bdp H
  refine n_callv (n_q md_187 rfl) (As := [.ref 199, .int y1, .int 1]) (rest := []) rfl rfl (Nat.le_of_ble_eq_true rfl) rfl (g_recv (b := 0) rfl t_199 rfl) (C134 (by omega) hv1) ?_
  by_cases h3 : v1 = 0
  · rw [if_pos h3] at H
    refine n_ifT (n_q md_187 rfl) (decide_eq_true h3) ?_
    refine g_go 2 md_187 (i1 := 18) rfl ?_
    refine g_getf (n_q md_187 rfl) t_199 rfl ?_
    obtain ⟨s5, hs5, H⟩ := g_bind H
    refine n_call (n_q md_187 rfl) (As := [.ref 199, .int (s2 199 13)]) (rest := []) rfl rfl (Nat.le_of_ble_eq_true rfl) rfl (g_recv (b := 0) rfl t_199 rfl) (C182 (by omega) hs5) ?_
    refine g_go 1 md_187 (i1 := 21) rfl ?_
    refine g_getr 239 (n_q md_187 rfl) t_199 rfl ?_
    refine g_go 1 md_187 (i1 := 23) rfl ?_
    obtain ⟨h6, H⟩ := g_gd H
    refine g_iald (n_q md_187 rfl) t_239 h6 ?_
    cases H
    exact n_iret (n_q md_187 rfl) (Or.inl rfl)
  · rw [if_neg h3] at H
    refine n_ifF (n_q md_187 rfl) (fun e1 => h3 (of_decide_eq_true e1)) ?_
    refine g_go 1 md_187 (i1 := 15) rfl ?_
    cases H
    exact n_iret (n_q md_187 rfl) (Or.inl rfl)
noncomputable def f187 (s : g_S) (p1 : Int32) : Option (Int32 × g_S) := (g_let (g_w s 199 0 0) fun s1 => (f173 s1 p1).bind fun v2 => if v2 = 0 then (f187_11 s1 p1 1) else (f187_11 s1 p1 0))
theorem C187 {d ex : Nat} {s : g_S} {p1 : Int32}  {z : Int32 × g_S} (hd : 81 < d) (H : f187 s p1 = some z) : n_C X d 187 [.ref 199, .int p1] (g_M s ex) (g_rSI z ex) := by
  obtain ⟨d, rfl⟩ : ∃ d1, d = d1 + 1 := ⟨d - 1, by omega⟩
  replace hd := Nat.le_of_lt_succ hd
  refine ⟨Nat.le_of_ble_eq_true rfl, ?_⟩
  rw [md_187]
  show n_R X (d + 1) 187 0 [some (.ref 199), some (.int p1)] [] (g_M s ex) _
  unfold f187 at H
  refine g_go 2 md_187 (i1 := 2) rfl ?_
  obtain ⟨s1, es1, H⟩ := g_letp H
  refine g_putf (n_q md_187 rfl) t_199 rfl rfl es1 ?_
  refine g_go 3 md_187 (i1 := 6) rfl ?_
  obtain ⟨v2, hv2, H⟩ := g_bind H
  refine n_callv (n_q md_187 rfl) (As := [.ref 199, .int p1]) (rest := [.ref 199]) rfl rfl (Nat.le_of_ble_eq_true rfl) rfl (g_recv (b := 0) rfl t_199 rfl) (C173 (by omega) hv2) ?_
  by_cases h3 : v2 = 0
  · rw [if_pos h3] at H
    refine n_ifF (n_q md_187 rfl) (fun e1 => of_decide_eq_true e1 h3) ?_
    refine g_go 2 md_187 (i1 := 11) rfl ?_
    exact P187_11 H hd
  · rw [if_neg h3] at H
    refine n_ifT (n_q md_187 rfl) (decide_eq_true h3) ?_
    refine g_go 1 md_187 (i1 := 11) rfl ?_
    exact P187_11 H hd

theorem md_188 : m_md 188 = m_X8_pays := rfl
noncomputable def f188_11 (s : g_S) (p1 : Int32) (y1 : Int32) : Option (Int32 × g_S) := (g_bd (f134 s y1 1) fun v1 s2 => if v1 = 0 then ((f182 s2 (s2 199 13)).bind fun s5 => if m_in p1 13 = true then some ((s5 240 p1.toNatClampNeg, s5)) else none) else (some ((0, s2))))
theorem P188_11 {d ex : Nat} {s : g_S} {p1 : Int32} {y1 : Int32}   {z : (Int32 × g_S)} (H : f188_11 s p1 y1 = some z) (hd : 81 ≤ d)  : n_R X (d + 1) 188 11 [some (.ref 199), some (.int p1)] [.int y1, .ref 199] (g_M s ex) (g_rSI z ex) := by
  unfold f188_11 at H
  refine g_go 1 md_188 (i1 := 12) rfl ?_
  obtain ⟨v1, s2, hv1, H⟩ := g_bdp H
  refine n_callv (n_q md_188 rfl) (As := [.ref 199, .int y1, .int 1]) (rest := []) rfl rfl (Nat.le_of_ble_eq_true rfl) rfl (g_recv (b := 0) rfl t_199 rfl) (C134 (by omega) hv1) ?_
  by_cases h3 : v1 = 0
  · rw [if_pos h3] at H
    refine n_ifT (n_q md_188 rfl) (decide_eq_true h3) ?_
    refine g_go 2 md_188 (i1 := 18) rfl ?_
    refine g_getf (n_q md_188 rfl) t_199 rfl ?_
    obtain ⟨s5, hs5, H⟩ := g_bind H
    refine n_call (n_q md_188 rfl) (As := [.ref 199, .int (s2 199 13)]) (rest := []) rfl rfl (Nat.le_of_ble_eq_true rfl) rfl (g_recv (b := 0) rfl t_199 rfl) (C182 (by omega) hs5) ?_
    refine g_go 1 md_188 (i1 := 21) rfl ?_
    refine g_getr 240 (n_q md_188 rfl) t_199 rfl ?_
    refine g_go 1 md_188 (i1 := 23) rfl ?_
    obtain ⟨h6, H⟩ := g_gd H
    refine g_iald (n_q md_188 rfl) t_240 h6 ?_
    cases H
    exact n_iret (n_q md_188 rfl) (Or.inl rfl)
  · rw [if_neg h3] at H
    refine n_ifF (n_q md_188 rfl) (fun e1 => h3 (of_decide_eq_true e1)) ?_
    refine g_go 1 md_188 (i1 := 15) rfl ?_
    cases H
    exact n_iret (n_q md_188 rfl) (Or.inl rfl)
noncomputable def f188 (s : g_S) (p1 : Int32) : Option (Int32 × g_S) := (g_let (g_w s 199 0 0) fun s1 => (f173 s1 p1).bind fun v2 => if v2 = 0 then (f188_11 s1 p1 1) else (f188_11 s1 p1 0))
theorem C188 {d ex : Nat} {s : g_S} {p1 : Int32}  {z : Int32 × g_S} (hd : 81 < d) (H : f188 s p1 = some z) : n_C X d 188 [.ref 199, .int p1] (g_M s ex) (g_rSI z ex) := by
  obtain ⟨d, rfl⟩ : ∃ d1, d = d1 + 1 := ⟨d - 1, by omega⟩
  replace hd := Nat.le_of_lt_succ hd
  refine ⟨Nat.le_of_ble_eq_true rfl, ?_⟩
  rw [md_188]
  show n_R X (d + 1) 188 0 [some (.ref 199), some (.int p1)] [] (g_M s ex) _
  unfold f188 at H
  refine g_go 2 md_188 (i1 := 2) rfl ?_
  obtain ⟨s1, es1, H⟩ := g_letp H
  refine g_putf (n_q md_188 rfl) t_199 rfl rfl es1 ?_
  refine g_go 3 md_188 (i1 := 6) rfl ?_
  obtain ⟨v2, hv2, H⟩ := g_bind H
  refine n_callv (n_q md_188 rfl) (As := [.ref 199, .int p1]) (rest := [.ref 199]) rfl rfl (Nat.le_of_ble_eq_true rfl) rfl (g_recv (b := 0) rfl t_199 rfl) (C173 (by omega) hv2) ?_
  by_cases h3 : v2 = 0
  · rw [if_pos h3] at H
    refine n_ifF (n_q md_188 rfl) (fun e1 => of_decide_eq_true e1 h3) ?_
    refine g_go 2 md_188 (i1 := 11) rfl ?_
    exact P188_11 H hd
  · rw [if_neg h3] at H
    refine n_ifT (n_q md_188 rfl) (decide_eq_true h3) ?_
    refine g_go 1 md_188 (i1 := 11) rfl ?_
    exact P188_11 H hd

theorem md_189 : m_md 189 = m_X8_bears := rfl
noncomputable def f189_11 (s : g_S) (p1 : Int32) (y1 : Int32) : Option (Int32 × g_S) := (g_bd (f134 s y1 1) fun v1 s2 => if v1 = 0 then ((f182 s2 (s2 199 13)).bind fun s5 => if m_in p1 13 = true then some ((s5 242 p1.toNatClampNeg, s5)) else none) else (some ((0, s2))))
theorem P189_11 {d ex : Nat} {s : g_S} {p1 : Int32} {y1 : Int32}   {z : (Int32 × g_S)} (H : f189_11 s p1 y1 = some z) (hd : 81 ≤ d)  : n_R X (d + 1) 189 11 [some (.ref 199), some (.int p1)] [.int y1, .ref 199] (g_M s ex) (g_rSI z ex) := by
  unfold f189_11 at H
  refine g_go 1 md_189 (i1 := 12) rfl ?_
  obtain ⟨v1, s2, hv1, H⟩ := g_bdp H
  refine n_callv (n_q md_189 rfl) (As := [.ref 199, .int y1, .int 1]) (rest := []) rfl rfl (Nat.le_of_ble_eq_true rfl) rfl (g_recv (b := 0) rfl t_199 rfl) (C134 (by omega) hv1) ?_
  by_cases h3 : v1 = 0
  · rw [if_pos h3] at H
    refine n_ifT (n_q md_189 rfl) (decide_eq_true h3) ?_
    refine g_go 2 md_189 (i1 := 18) rfl ?_
    refine g_getf (n_q md_189 rfl) t_199 rfl ?_
    obtain ⟨s5, hs5, H⟩ := g_bind H
    refine n_call (n_q md_189 rfl) (As := [.ref 199, .int (s2 199 13)]) (rest := []) rfl rfl (Nat.le_of_ble_eq_true rfl) rfl (g_recv (b := 0) rfl t_199 rfl) (C182 (by omega) hs5) ?_
    refine g_go 1 md_189 (i1 := 21) rfl ?_
    refine g_getr 242 (n_q md_189 rfl) t_199 rfl ?_
    refine g_go 1 md_189 (i1 := 23) rfl ?_
    obtain ⟨h6, H⟩ := g_gd H
    refine g_iald (n_q md_189 rfl) t_242 h6 ?_
    cases H
    exact n_iret (n_q md_189 rfl) (Or.inl rfl)
  · rw [if_neg h3] at H
    refine n_ifF (n_q md_189 rfl) (fun e1 => h3 (of_decide_eq_true e1)) ?_
    refine g_go 1 md_189 (i1 := 15) rfl ?_
    cases H
    exact n_iret (n_q md_189 rfl) (Or.inl rfl)
noncomputable def f189 (s : g_S) (p1 : Int32) : Option (Int32 × g_S) := (g_let (g_w s 199 0 0) fun s1 => (f173 s1 p1).bind fun v2 => if v2 = 0 then (f189_11 s1 p1 1) else (f189_11 s1 p1 0))
theorem C189 {d ex : Nat} {s : g_S} {p1 : Int32}  {z : Int32 × g_S} (hd : 81 < d) (H : f189 s p1 = some z) : n_C X d 189 [.ref 199, .int p1] (g_M s ex) (g_rSI z ex) := by
  obtain ⟨d, rfl⟩ : ∃ d1, d = d1 + 1 := ⟨d - 1, by omega⟩
  replace hd := Nat.le_of_lt_succ hd
  refine ⟨Nat.le_of_ble_eq_true rfl, ?_⟩
  rw [md_189]
  show n_R X (d + 1) 189 0 [some (.ref 199), some (.int p1)] [] (g_M s ex) _
  unfold f189 at H
  refine g_go 2 md_189 (i1 := 2) rfl ?_
  obtain ⟨s1, es1, H⟩ := g_letp H
  refine g_putf (n_q md_189 rfl) t_199 rfl rfl es1 ?_
  refine g_go 3 md_189 (i1 := 6) rfl ?_
  obtain ⟨v2, hv2, H⟩ := g_bind H
  refine n_callv (n_q md_189 rfl) (As := [.ref 199, .int p1]) (rest := [.ref 199]) rfl rfl (Nat.le_of_ble_eq_true rfl) rfl (g_recv (b := 0) rfl t_199 rfl) (C173 (by omega) hv2) ?_
  by_cases h3 : v2 = 0
  · rw [if_pos h3] at H
    refine n_ifF (n_q md_189 rfl) (fun e1 => of_decide_eq_true e1 h3) ?_
    refine g_go 2 md_189 (i1 := 11) rfl ?_
    exact P189_11 H hd
  · rw [if_neg h3] at H
    refine n_ifT (n_q md_189 rfl) (decide_eq_true h3) ?_
    refine g_go 1 md_189 (i1 := 11) rfl ?_
    exact P189_11 H hd

theorem md_190 : m_md 190 = m_X8_must := rfl
noncomputable def f190_11 (s : g_S) (p1 : Int32) (y1 : Int32) : Option (Int32 × g_S) := (g_bd (f134 s y1 1) fun v1 s2 => if v1 = 0 then ((f182 s2 (s2 199 13)).bind fun s5 => if m_in p1 13 = true then if (s5 243 p1.toNatClampNeg) = 0 then (some ((0, s5))) else (if (s5 (225 + p1.toNatClampNeg) 3) = 0 then (some ((1, s5))) else (some ((0, s5)))) else none) else (some ((0, s2))))
theorem P190_11 {d ex : Nat} {s : g_S} {p1 : Int32} {y1 : Int32}   {z : (Int32 × g_S)} (H : f190_11 s p1 y1 = some z) (hd : 81 ≤ d)  : n_R X (d + 1) 190 11 [some (.ref 199), some (.int p1)] [.int y1, .ref 199] (g_M s ex) (g_rSI z ex) := by
  unfold f190_11 at H
  refine g_go 1 md_190 (i1 := 12) rfl ?_
  obtain ⟨v1, s2, hv1, H⟩ := g_bdp H
  refine n_callv (n_q md_190 rfl) (As := [.ref 199, .int y1, .int 1]) (rest := []) rfl rfl (Nat.le_of_ble_eq_true rfl) rfl (g_recv (b := 0) rfl t_199 rfl) (C134 (by omega) hv1) ?_
  by_cases h3 : v1 = 0
  · rw [if_pos h3] at H
    refine n_ifT (n_q md_190 rfl) (decide_eq_true h3) ?_
    refine g_go 2 md_190 (i1 := 18) rfl ?_
    refine g_getf (n_q md_190 rfl) t_199 rfl ?_
    obtain ⟨s5, hs5, H⟩ := g_bind H
    refine n_call (n_q md_190 rfl) (As := [.ref 199, .int (s2 199 13)]) (rest := []) rfl rfl (Nat.le_of_ble_eq_true rfl) rfl (g_recv (b := 0) rfl t_199 rfl) (C182 (by omega) hs5) ?_
    refine g_go 1 md_190 (i1 := 21) rfl ?_
    refine g_getr 243 (n_q md_190 rfl) t_199 rfl ?_
    refine g_go 1 md_190 (i1 := 23) rfl ?_
    obtain ⟨h6, H⟩ := g_gd H
    refine g_bald (n_q md_190 rfl) t_243 h6 ?_
    by_cases h7 : (s5 243 p1.toNatClampNeg) = 0
    · rw [if_pos h7] at H
      refine n_ifT (n_q md_190 rfl) (decide_eq_true h7) ?_
      refine g_go 1 md_190 (i1 := 35) rfl ?_
      cases H
      exact n_iret (n_q md_190 rfl) (Or.inr rfl)
    · rw [if_neg h7] at H
      refine n_ifF (n_q md_190 rfl) (fun e1 => h7 (of_decide_eq_true e1)) ?_
      refine g_go 1 md_190 (i1 := 26) rfl ?_
      refine g_getr 224 (n_q md_190 rfl) t_199 rfl ?_
      refine g_go 1 md_190 (i1 := 28) rfl ?_
      refine g_aald (n_q md_190 rfl) ta_224 (by decide) h6 (g_range (g_inlt h6)) ?_
      refine g_go 1 md_190 (i1 := 30) rfl ?_
      refine g_bald (n_q md_190 rfl) (te_224 (g_inlt h6)) (rfl : m_in 3 4 = true) ?_
      by_cases h8 : (s5 (225 + p1.toNatClampNeg) 3) = 0
      · rw [if_pos h8] at H
        refine n_ifF (n_q md_190 rfl) (fun e1 => of_decide_eq_true e1 h8) ?_
        refine g_go 2 md_190 (i1 := 35) rfl ?_
        cases H
        exact n_iret (n_q md_190 rfl) (Or.inr rfl)
      · rw [if_neg h8] at H
        refine n_ifT (n_q md_190 rfl) (decide_eq_true h8) ?_
        refine g_go 1 md_190 (i1 := 35) rfl ?_
        cases H
        exact n_iret (n_q md_190 rfl) (Or.inr rfl)
  · rw [if_neg h3] at H
    refine n_ifF (n_q md_190 rfl) (fun e1 => h3 (of_decide_eq_true e1)) ?_
    refine g_go 1 md_190 (i1 := 15) rfl ?_
    cases H
    exact n_iret (n_q md_190 rfl) (Or.inr rfl)
noncomputable def f190 (s : g_S) (p1 : Int32) : Option (Int32 × g_S) := (g_let (g_w s 199 0 0) fun s1 => (f173 s1 p1).bind fun v2 => if v2 = 0 then (f190_11 s1 p1 1) else (f190_11 s1 p1 0))
theorem C190 {d ex : Nat} {s : g_S} {p1 : Int32}  {z : Int32 × g_S} (hd : 81 < d) (H : f190 s p1 = some z) : n_C X d 190 [.ref 199, .int p1] (g_M s ex) (g_rSI z ex) := by
  obtain ⟨d, rfl⟩ : ∃ d1, d = d1 + 1 := ⟨d - 1, by omega⟩
  replace hd := Nat.le_of_lt_succ hd
  refine ⟨Nat.le_of_ble_eq_true rfl, ?_⟩
  rw [md_190]
  show n_R X (d + 1) 190 0 [some (.ref 199), some (.int p1)] [] (g_M s ex) _
  unfold f190 at H
  refine g_go 2 md_190 (i1 := 2) rfl ?_
  obtain ⟨s1, es1, H⟩ := g_letp H
  refine g_putf (n_q md_190 rfl) t_199 rfl rfl es1 ?_
  refine g_go 3 md_190 (i1 := 6) rfl ?_
  obtain ⟨v2, hv2, H⟩ := g_bind H
  refine n_callv (n_q md_190 rfl) (As := [.ref 199, .int p1]) (rest := [.ref 199]) rfl rfl (Nat.le_of_ble_eq_true rfl) rfl (g_recv (b := 0) rfl t_199 rfl) (C173 (by omega) hv2) ?_
  by_cases h3 : v2 = 0
  · rw [if_pos h3] at H
    refine n_ifF (n_q md_190 rfl) (fun e1 => of_decide_eq_true e1 h3) ?_
    refine g_go 2 md_190 (i1 := 11) rfl ?_
    exact P190_11 H hd
  · rw [if_neg h3] at H
    refine n_ifT (n_q md_190 rfl) (decide_eq_true h3) ?_
    refine g_go 1 md_190 (i1 := 11) rfl ?_
    exact P190_11 H hd

theorem md_191 : m_md 191 = m_X8_frees := rfl
noncomputable def f191_11 (s : g_S) (p1 : Int32) (y1 : Int32) : Option (Int32 × g_S) := (g_bd (f134 s y1 1) fun v1 s2 => if v1 = 0 then (if m_in p1 13 = true then if (s2 (225 + p1.toNatClampNeg) 3) = 0 then ((f182 s2 (s2 199 13)).bind fun s7 => g_let (g_w s7 (225 + p1.toNatClampNeg) 3 1) fun s8 => (f182 s8 (s8 199 13)).bind fun s10 => g_let (g_w s10 (225 + p1.toNatClampNeg) 3 0) fun s11 => some (((s7 242 p1.toNatClampNeg) - (s11 242 p1.toNatClampNeg), s11))) else (some ((0, s2))) else none) else (some ((0, s2))))
theorem P191_11 {d ex : Nat} {s : g_S} {p1 : Int32} {y1 : Int32} {u2 : Option Value}   {z : (Int32 × g_S)} (H : f191_11 s p1 y1 = some z) (hd : 81 ≤ d)  : n_R X (d + 1) 191 11 [some (.ref 199), some (.int p1), u2] [.int y1, .ref 199] (g_M s ex) (g_rSI z ex) := by
  unfold f191_11 at H
  refine g_go 1 md_191 (i1 := 12) rfl ?_
  obtain ⟨v1, s2, hv1, H⟩ := g_bdp H
  refine n_callv (n_q md_191 rfl) (As := [.ref 199, .int y1, .int 1]) (rest := []) rfl rfl (Nat.le_of_ble_eq_true rfl) rfl (g_recv (b := 0) rfl t_199 rfl) (C134 (by omega) hv1) ?_
  by_cases h3 : v1 = 0
  · rw [if_pos h3] at H
    refine n_ifT (n_q md_191 rfl) (decide_eq_true h3) ?_
    refine g_go 1 md_191 (i1 := 17) rfl ?_
    refine g_getr 224 (n_q md_191 rfl) t_199 rfl ?_
    refine g_go 1 md_191 (i1 := 19) rfl ?_
    obtain ⟨h4, H⟩ := g_gd H
    refine g_aald (n_q md_191 rfl) ta_224 (by decide) h4 (g_range (g_inlt h4)) ?_
    refine g_go 1 md_191 (i1 := 21) rfl ?_
    refine g_bald (n_q md_191 rfl) (te_224 (g_inlt h4)) (rfl : m_in 3 4 = true) ?_
    by_cases h5 : (s2 (225 + p1.toNatClampNeg) 3) = 0
    · rw [if_pos h5] at H
      refine n_ifT (n_q md_191 rfl) (decide_eq_true h5) ?_
      refine g_go 2 md_191 (i1 := 27) rfl ?_
      refine g_getf (n_q md_191 rfl) t_199 rfl ?_
      obtain ⟨s7, hs7, H⟩ := g_bind H
      refine n_call (n_q md_191 rfl) (As := [.ref 199, .int (s2 199 13)]) (rest := []) rfl rfl (Nat.le_of_ble_eq_true rfl) rfl (g_recv (b := 0) rfl t_199 rfl) (C182 (by omega) hs7) ?_
      refine g_go 1 md_191 (i1 := 30) rfl ?_
      refine g_getr 242 (n_q md_191 rfl) t_199 rfl ?_
      refine g_go 1 md_191 (i1 := 32) rfl ?_
      refine g_iald (n_q md_191 rfl) t_242 h4 ?_
      refine g_go 2 md_191 (i1 := 35) (ls1 := [some (.ref 199), some (.int p1), some (.int (s7 242 p1.toNatClampNeg))]) rfl ?_
      refine g_getr 224 (n_q md_191 rfl) t_199 rfl ?_
      refine g_go 1 md_191 (i1 := 37) rfl ?_
      refine g_aald (n_q md_191 rfl) ta_224 (by decide) h4 (g_range (g_inlt h4)) ?_
      refine g_go 2 md_191 (i1 := 40) rfl ?_
      obtain ⟨s8, es8, H⟩ := g_letp H
      refine g_bast (n_q md_191 rfl) (te_224 (g_inlt h4)) (rfl : m_in 3 4 = true) rfl es8 ?_
      refine g_go 2 md_191 (i1 := 43) rfl ?_
      refine g_getf (n_q md_191 rfl) t_199 rfl ?_
      obtain ⟨s10, hs10, H⟩ := g_bind H
      refine n_call (n_q md_191 rfl) (As := [.ref 199, .int (s8 199 13)]) (rest := []) rfl rfl (Nat.le_of_ble_eq_true rfl) rfl (g_recv (b := 0) rfl t_199 rfl) (C182 (by omega) hs10) ?_
      refine g_go 1 md_191 (i1 := 46) rfl ?_
      refine g_getr 224 (n_q md_191 rfl) t_199 rfl ?_
      refine g_go 1 md_191 (i1 := 48) rfl ?_
      refine g_aald (n_q md_191 rfl) ta_224 (by decide) h4 (g_range (g_inlt h4)) ?_
      refine g_go 2 md_191 (i1 := 51) rfl ?_
      obtain ⟨s11, es11, H⟩ := g_letp H
      refine g_bast (n_q md_191 rfl) (te_224 (g_inlt h4)) (rfl : m_in 3 4 = true) rfl es11 ?_
      refine g_go 2 md_191 (i1 := 54) rfl ?_
      refine g_getr 242 (n_q md_191 rfl) t_199 rfl ?_
      refine g_go 1 md_191 (i1 := 56) rfl ?_
      refine g_iald (n_q md_191 rfl) t_242 h4 ?_
      refine g_go 1 md_191 (i1 := 58) rfl ?_
      cases H
      exact n_iret (n_q md_191 rfl) (Or.inl rfl)
    · rw [if_neg h5] at H
      refine n_ifF (n_q md_191 rfl) (fun e1 => h5 (of_decide_eq_true e1)) ?_
      refine g_go 1 md_191 (i1 := 24) rfl ?_
      cases H
      exact n_iret (n_q md_191 rfl) (Or.inl rfl)
  · rw [if_neg h3] at H
    refine n_ifF (n_q md_191 rfl) (fun e1 => h3 (of_decide_eq_true e1)) ?_
    refine g_go 1 md_191 (i1 := 15) rfl ?_
    cases H
    exact n_iret (n_q md_191 rfl) (Or.inl rfl)
noncomputable def f191 (s : g_S) (p1 : Int32) : Option (Int32 × g_S) := (g_let (g_w s 199 0 0) fun s1 => (f173 s1 p1).bind fun v2 => if v2 = 0 then (f191_11 s1 p1 1) else (f191_11 s1 p1 0))
theorem C191 {d ex : Nat} {s : g_S} {p1 : Int32}  {z : Int32 × g_S} (hd : 81 < d) (H : f191 s p1 = some z) : n_C X d 191 [.ref 199, .int p1] (g_M s ex) (g_rSI z ex) := by
  obtain ⟨d, rfl⟩ : ∃ d1, d = d1 + 1 := ⟨d - 1, by omega⟩
  replace hd := Nat.le_of_lt_succ hd
  refine ⟨Nat.le_of_ble_eq_true rfl, ?_⟩
  rw [md_191]
  show n_R X (d + 1) 191 0 [some (.ref 199), some (.int p1), none] [] (g_M s ex) _
  unfold f191 at H
  refine g_go 2 md_191 (i1 := 2) rfl ?_
  obtain ⟨s1, es1, H⟩ := g_letp H
  refine g_putf (n_q md_191 rfl) t_199 rfl rfl es1 ?_
  refine g_go 3 md_191 (i1 := 6) rfl ?_
  obtain ⟨v2, hv2, H⟩ := g_bind H
  refine n_callv (n_q md_191 rfl) (As := [.ref 199, .int p1]) (rest := [.ref 199]) rfl rfl (Nat.le_of_ble_eq_true rfl) rfl (g_recv (b := 0) rfl t_199 rfl) (C173 (by omega) hv2) ?_
  by_cases h3 : v2 = 0
  · rw [if_pos h3] at H
    refine n_ifF (n_q md_191 rfl) (fun e1 => of_decide_eq_true e1 h3) ?_
    refine g_go 2 md_191 (i1 := 11) rfl ?_
    exact P191_11 H hd
  · rw [if_neg h3] at H
    refine n_ifT (n_q md_191 rfl) (decide_eq_true h3) ?_
    refine g_go 1 md_191 (i1 := 11) rfl ?_
    exact P191_11 H hd

theorem md_192 : m_md 192 = m_X8_question := rfl
noncomputable def f192_44 (s : g_S) (p1 : Int32) (p2 : Int32) (p3 : Int32) (y1 : Int32) : Option (Int32 × g_S) := (g_bd (f134 s y1 2) fun v1 s2 => if v1 = 0 then (if (s2 199 43) = 8 then (some (((-1), s2))) else (if m_in (s2 199 43) 8 = true then g_let (g_w s2 (260 + (s2 199 43).toNatClampNeg) 0 p1) fun s6 => if m_in (s6 199 43) 8 = true then g_let (g_w s6 (260 + (s6 199 43).toNatClampNeg) 1 p2) fun s8 => if m_in (s8 199 43) 8 = true then g_let (g_w s8 (260 + (s8 199 43).toNatClampNeg) 2 p3) fun s10 => g_let (g_w s10 199 43 ((s10 199 43) + 1)) fun s11 => some (((s11 199 43) - 1, s11)) else none else none else none)) else (some ((0, s2))))
theorem P192_44 {d ex : Nat} {s : g_S} {p1 : Int32} {p2 : Int32} {p3 : Int32} {y1 : Int32}   {z : (Int32 × g_S)} (H : f192_44 s p1 p2 p3 y1 = some z) (hd : 14 ≤ d)  : n_R X (d + 1) 192 44 [some (.ref 199), some (.int p1), some (.int p2), some (.int p3)] [.int y1, .ref 199] (g_M s ex) (g_rSI z ex) := by
  unfold f192_44 at H
  refine g_go 1 md_192 (i1 := 45) rfl ?_
  obtain ⟨v1, s2, hv1, H⟩ := g_bdp H
  refine n_callv (n_q md_192 rfl) (As := [.ref 199, .int y1, .int 2]) (rest := []) rfl rfl (Nat.le_of_ble_eq_true rfl) rfl (g_recv (b := 0) rfl t_199 rfl) (C134 (by omega) hv1) ?_
  by_cases h3 : v1 = 0
  · rw [if_pos h3] at H
    refine n_ifT (n_q md_192 rfl) (decide_eq_true h3) ?_
    refine g_go 1 md_192 (i1 := 50) rfl ?_
    refine g_getf (n_q md_192 rfl) t_199 rfl ?_
    refine g_go 1 md_192 (i1 := 52) rfl ?_
    by_cases h4 : (s2 199 43) = 8
    · rw [if_pos h4] at H
      refine n_cmpF (n_q md_192 rfl) (fun e1 => of_decide_eq_true e1 h4) ?_
      refine g_go 1 md_192 (i1 := 54) rfl ?_
      cases H
      exact n_iret (n_q md_192 rfl) (Or.inl rfl)
    · rw [if_neg h4] at H
      refine n_cmpT (n_q md_192 rfl) (decide_eq_true h4) ?_
      refine g_go 1 md_192 (i1 := 56) rfl ?_
      refine g_getr 259 (n_q md_192 rfl) t_199 rfl ?_
      refine g_go 1 md_192 (i1 := 58) rfl ?_
      refine g_getf (n_q md_192 rfl) t_199 rfl ?_
      obtain ⟨h5, H⟩ := g_gd H
      refine g_aald (n_q md_192 rfl) ta_259 (by decide) h5 (g_range (g_inlt h5)) ?_
      refine g_go 2 md_192 (i1 := 62) rfl ?_
      obtain ⟨s6, es6, H⟩ := g_letp H
      refine g_iast (n_q md_192 rfl) (te_259 (g_inlt h5)) (rfl : m_in 0 3 = true) es6 ?_
      refine g_go 1 md_192 (i1 := 64) rfl ?_
      refine g_getr 259 (n_q md_192 rfl) t_199 rfl ?_
      refine g_go 1 md_192 (i1 := 66) rfl ?_
      refine g_getf (n_q md_192 rfl) t_199 rfl ?_
      obtain ⟨h7, H⟩ := g_gd H
      refine g_aald (n_q md_192 rfl) ta_259 (by decide) h7 (g_range (g_inlt h7)) ?_
      refine g_go 2 md_192 (i1 := 70) rfl ?_
      obtain ⟨s8, es8, H⟩ := g_letp H
      refine g_iast (n_q md_192 rfl) (te_259 (g_inlt h7)) (rfl : m_in 1 3 = true) es8 ?_
      refine g_go 1 md_192 (i1 := 72) rfl ?_
      refine g_getr 259 (n_q md_192 rfl) t_199 rfl ?_
      refine g_go 1 md_192 (i1 := 74) rfl ?_
      refine g_getf (n_q md_192 rfl) t_199 rfl ?_
      obtain ⟨h9, H⟩ := g_gd H
      refine g_aald (n_q md_192 rfl) ta_259 (by decide) h9 (g_range (g_inlt h9)) ?_
      refine g_go 2 md_192 (i1 := 78) rfl ?_
      obtain ⟨s10, es10, H⟩ := g_letp H
      refine g_iast (n_q md_192 rfl) (te_259 (g_inlt h9)) (rfl : m_in 2 3 = true) es10 ?_
      refine g_go 2 md_192 (i1 := 81) rfl ?_
      refine g_getf (n_q md_192 rfl) t_199 rfl ?_
      refine g_go 2 md_192 (i1 := 84) rfl ?_
      obtain ⟨s11, es11, H⟩ := g_letp H
      refine g_putf (n_q md_192 rfl) t_199 rfl rfl es11 ?_
      refine g_go 1 md_192 (i1 := 86) rfl ?_
      refine g_getf (n_q md_192 rfl) t_199 rfl ?_
      refine g_go 2 md_192 (i1 := 89) rfl ?_
      cases H
      exact n_iret (n_q md_192 rfl) (Or.inl rfl)
  · rw [if_neg h3] at H
    refine n_ifF (n_q md_192 rfl) (fun e1 => h3 (of_decide_eq_true e1)) ?_
    refine g_go 1 md_192 (i1 := 48) rfl ?_
    cases H
    exact n_iret (n_q md_192 rfl) (Or.inl rfl)
noncomputable def f192_41 (s : g_S) (p1 : Int32) (p2 : Int32) (p3 : Int32) : Option (Int32 × g_S) := (f192_44 s p1 p2 p3 1)
theorem P192_41 {d ex : Nat} {s : g_S} {p1 : Int32} {p2 : Int32} {p3 : Int32}   {z : (Int32 × g_S)} (H : f192_41 s p1 p2 p3 = some z) (hd : 14 ≤ d)  : n_R X (d + 1) 192 41 [some (.ref 199), some (.int p1), some (.int p2), some (.int p3)] [.ref 199] (g_M s ex) (g_rSI z ex) := by
  unfold f192_41 at H
  refine g_go 2 md_192 (i1 := 44) rfl ?_
  exact P192_44 H hd
noncomputable def f192_43 (s : g_S) (p1 : Int32) (p2 : Int32) (p3 : Int32) : Option (Int32 × g_S) := (f192_44 s p1 p2 p3 0)
theorem P192_43 {d ex : Nat} {s : g_S} {p1 : Int32} {p2 : Int32} {p3 : Int32}   {z : (Int32 × g_S)} (H : f192_43 s p1 p2 p3 = some z) (hd : 14 ≤ d)  : n_R X (d + 1) 192 43 [some (.ref 199), some (.int p1), some (.int p2), some (.int p3)] [.ref 199] (g_M s ex) (g_rSI z ex) := by
  unfold f192_43 at H
  refine g_go 1 md_192 (i1 := 44) rfl ?_
  exact P192_44 H hd
noncomputable def f192_33 (s : g_S) (p1 : Int32) (p2 : Int32) (p3 : Int32) : Option (Int32 × g_S) := (if p1 = 5 then ((f135 s p3 0 999).bind fun v2 => if v2 = 0 then (f192_41 s p1 p2 p3) else (f192_43 s p1 p2 p3)) else (f192_43 s p1 p2 p3))
theorem P192_33 {d ex : Nat} {s : g_S} {p1 : Int32} {p2 : Int32} {p3 : Int32}   {z : (Int32 × g_S)} (H : f192_33 s p1 p2 p3 = some z) (hd : 14 ≤ d)  : n_R X (d + 1) 192 33 [some (.ref 199), some (.int p1), some (.int p2), some (.int p3)] [.ref 199] (g_M s ex) (g_rSI z ex) := by
  unfold f192_33 at H
  refine g_go 2 md_192 (i1 := 35) rfl ?_
  by_cases h1 : p1 = 5
  · rw [if_pos h1] at H
    refine n_cmpF (n_q md_192 rfl) (fun e1 => of_decide_eq_true e1 h1) ?_
    refine g_go 3 md_192 (i1 := 39) rfl ?_
    obtain ⟨v2, hv2, H⟩ := g_bind H
    refine n_callv (n_q md_192 rfl) (As := [.int p3, .int 0, .int 999]) (rest := [.ref 199]) rfl rfl (Nat.le_of_ble_eq_true rfl) rfl rfl (C135 (by omega) hv2) ?_
    by_cases h3 : v2 = 0
    · rw [if_pos h3] at H
      refine n_ifF (n_q md_192 rfl) (fun e1 => of_decide_eq_true e1 h3) ?_
      exact P192_41 H hd
    · rw [if_neg h3] at H
      refine n_ifT (n_q md_192 rfl) (decide_eq_true h3) ?_
      exact P192_43 H hd
  · rw [if_neg h1] at H
    refine n_cmpT (n_q md_192 rfl) (decide_eq_true h1) ?_
    exact P192_43 H hd
noncomputable def f192_16 (s : g_S) (p1 : Int32) (p2 : Int32) (p3 : Int32) (y1 : Int32) : Option (Int32 × g_S) := (g_bd (f134 s y1 1) fun v1 s2 => if v1 = 0 then ((f135 s2 p1 0 5).bind fun v4 => if v4 = 0 then (f192_41 s2 p1 p2 p3) else (if p1 = 4 then ((f135 s2 p3 0 5).bind fun v7 => if v7 = 0 then (f192_41 s2 p1 p2 p3) else (f192_33 s2 p1 p2 p3)) else (f192_33 s2 p1 p2 p3))) else (some ((0, s2))))
theorem P192_16 {d ex : Nat} {s : g_S} {p1 : Int32} {p2 : Int32} {p3 : Int32} {y1 : Int32}   {z : (Int32 × g_S)} (H : f192_16 s p1 p2 p3 y1 = some z) (hd : 14 ≤ d)  : n_R X (d + 1) 192 16 [some (.ref 199), some (.int p1), some (.int p2), some (.int p3)] [.int y1, .ref 199] (g_M s ex) (g_rSI z ex) := by
  unfold f192_16 at H
  refine g_go 1 md_192 (i1 := 17) rfl ?_
  obtain ⟨v1, s2, hv1, H⟩ := g_bdp H
  refine n_callv (n_q md_192 rfl) (As := [.ref 199, .int y1, .int 1]) (rest := []) rfl rfl (Nat.le_of_ble_eq_true rfl) rfl (g_recv (b := 0) rfl t_199 rfl) (C134 (by omega) hv1) ?_
  by_cases h3 : v1 = 0
  · rw [if_pos h3] at H
    refine n_ifF (n_q md_192 rfl) (fun e1 => of_decide_eq_true e1 h3) ?_
    refine g_go 4 md_192 (i1 := 23) rfl ?_
    obtain ⟨v4, hv4, H⟩ := g_bind H
    refine n_callv (n_q md_192 rfl) (As := [.int p1, .int 0, .int 5]) (rest := [.ref 199]) rfl rfl (Nat.le_of_ble_eq_true rfl) rfl rfl (C135 (by omega) hv4) ?_
    by_cases h5 : v4 = 0
    · rw [if_pos h5] at H
      refine n_ifT (n_q md_192 rfl) (decide_eq_true h5) ?_
      exact P192_41 H hd
    · rw [if_neg h5] at H
      refine n_ifF (n_q md_192 rfl) (fun e1 => h5 (of_decide_eq_true e1)) ?_
      refine g_go 2 md_192 (i1 := 27) rfl ?_
      by_cases h6 : p1 = 4
      · rw [if_pos h6] at H
        refine n_cmpF (n_q md_192 rfl) (fun e1 => of_decide_eq_true e1 h6) ?_
        refine g_go 3 md_192 (i1 := 31) rfl ?_
        obtain ⟨v7, hv7, H⟩ := g_bind H
        refine n_callv (n_q md_192 rfl) (As := [.int p3, .int 0, .int 5]) (rest := [.ref 199]) rfl rfl (Nat.le_of_ble_eq_true rfl) rfl rfl (C135 (by omega) hv7) ?_
        by_cases h8 : v7 = 0
        · rw [if_pos h8] at H
          refine n_ifT (n_q md_192 rfl) (decide_eq_true h8) ?_
          exact P192_41 H hd
        · rw [if_neg h8] at H
          refine n_ifF (n_q md_192 rfl) (fun e1 => h8 (of_decide_eq_true e1)) ?_
          exact P192_33 H hd
      · rw [if_neg h6] at H
        refine n_cmpT (n_q md_192 rfl) (decide_eq_true h6) ?_
        exact P192_33 H hd
  · rw [if_neg h3] at H
    refine n_ifT (n_q md_192 rfl) (decide_eq_true h3) ?_
    refine g_go 1 md_192 (i1 := 48) rfl ?_
    cases H
    exact n_iret (n_q md_192 rfl) (Or.inl rfl)
noncomputable def f192_15 (s : g_S) (p1 : Int32) (p2 : Int32) (p3 : Int32) : Option (Int32 × g_S) := (f192_16 s p1 p2 p3 0)
theorem P192_15 {d ex : Nat} {s : g_S} {p1 : Int32} {p2 : Int32} {p3 : Int32}   {z : (Int32 × g_S)} (H : f192_15 s p1 p2 p3 = some z) (hd : 14 ≤ d)  : n_R X (d + 1) 192 15 [some (.ref 199), some (.int p1), some (.int p2), some (.int p3)] [.ref 199] (g_M s ex) (g_rSI z ex) := by
  unfold f192_15 at H
  refine g_go 1 md_192 (i1 := 16) rfl ?_
  exact P192_16 H hd
noncomputable def f192 (s : g_S) (p1 : Int32) (p2 : Int32) (p3 : Int32) : Option (Int32 × g_S) := (g_let (g_w s 199 0 0) fun s1 => (f135 s1 p1 0 3).bind fun v2 => if v2 = 0 then (f192_15 s1 p1 p2 p3) else ((f173 s1 p2).bind fun v4 => if v4 = 0 then (f192_16 s1 p1 p2 p3 1) else (f192_15 s1 p1 p2 p3)))
theorem C192 {d ex : Nat} {s : g_S} {p1 : Int32} {p2 : Int32} {p3 : Int32}  {z : Int32 × g_S} (hd : 14 < d) (H : f192 s p1 p2 p3 = some z) : n_C X d 192 [.ref 199, .int p1, .int p2, .int p3] (g_M s ex) (g_rSI z ex) := by
  obtain ⟨d, rfl⟩ : ∃ d1, d = d1 + 1 := ⟨d - 1, by omega⟩
  replace hd := Nat.le_of_lt_succ hd
  refine ⟨Nat.le_of_ble_eq_true rfl, ?_⟩
  rw [md_192]
  show n_R X (d + 1) 192 0 [some (.ref 199), some (.int p1), some (.int p2), some (.int p3)] [] (g_M s ex) _
  unfold f192 at H
  refine g_go 2 md_192 (i1 := 2) rfl ?_
  obtain ⟨s1, es1, H⟩ := g_letp H
  refine g_putf (n_q md_192 rfl) t_199 rfl rfl es1 ?_
  refine g_go 4 md_192 (i1 := 7) rfl ?_
  obtain ⟨v2, hv2, H⟩ := g_bind H
  refine n_callv (n_q md_192 rfl) (As := [.int p1, .int 0, .int 3]) (rest := [.ref 199]) rfl rfl (Nat.le_of_ble_eq_true rfl) rfl rfl (C135 (by omega) hv2) ?_
  by_cases h3 : v2 = 0
  · rw [if_pos h3] at H
    refine n_ifT (n_q md_192 rfl) (decide_eq_true h3) ?_
    exact P192_15 H hd
  · rw [if_neg h3] at H
    refine n_ifF (n_q md_192 rfl) (fun e1 => h3 (of_decide_eq_true e1)) ?_
    refine g_go 2 md_192 (i1 := 11) rfl ?_
    obtain ⟨v4, hv4, H⟩ := g_bind H
    refine n_callv (n_q md_192 rfl) (As := [.ref 199, .int p2]) (rest := [.ref 199]) rfl rfl (Nat.le_of_ble_eq_true rfl) rfl (g_recv (b := 0) rfl t_199 rfl) (C173 (by omega) hv4) ?_
    by_cases h5 : v4 = 0
    · rw [if_pos h5] at H
      refine n_ifF (n_q md_192 rfl) (fun e1 => of_decide_eq_true e1 h5) ?_
      refine g_go 2 md_192 (i1 := 16) rfl ?_
      exact P192_16 H hd
    · rw [if_neg h5] at H
      refine n_ifT (n_q md_192 rfl) (decide_eq_true h5) ?_
      exact P192_15 H hd

theorem md_193 : m_md 193 = m_X8_goesInto := rfl
noncomputable def f193_104 (s : g_S) (p1 : Int32) (x2 : Int32) (y1 : Int32) : Option ((Int32 × g_S) ⊕ (g_S)) := (g_let (g_w s 199 29 y1) fun s1 => some (.inl (x2 + 1, s1)))
theorem P193_104 {d ex : Nat} {rr : m_R} {s : g_S} {p1 : Int32} {x2 : Int32} {y1 : Int32} {u3 u4 : Option Value}   {z : ((Int32 × g_S) ⊕ (g_S))} (H : f193_104 s p1 x2 y1 = some z) (hd : 12 ≤ d) (K0 : ∀ S : Int32 × g_S, z = .inl S → ∀ u3 u4 : Option Value, n_R X (d + 1) 193 36 [some (.ref 199), some (.int p1), some (.int S.1), u3, u4] [] (g_M S.2 ex) rr) (Kr : ∀ q, z = .inr (q) → g_rSV q ex = rr) : n_R X (d + 1) 193 104 [some (.ref 199), some (.int p1), some (.int x2), u3, u4] [.int y1, .ref 199] (g_M s ex) rr := by
  unfold f193_104 at H
  obtain ⟨s1, es1, H⟩ := g_letp H
  refine g_putf (n_q md_193 rfl) t_199 rfl rfl es1 ?_
  refine g_go 2 md_193 (i1 := 36) (ls1 := [some (.ref 199), some (.int p1), some (.int (x2 + 1)), u3, u4]) rfl ?_
  cases H
  exact K0 (x2 + 1, s1) rfl _ _
noncomputable def f193_89 (s : g_S) (p1 : Int32) (x2 : Int32) (x3 : Int32) (x4 : Int32) : Option ((Int32 × g_S) ⊕ (g_S)) := (if x4 = 5 then (if x3 = 0 then (f193_104 s p1 x2 (s 199 47)) else (if m_in x2 8 = true then f193_104 s p1 x2 (s (260 + x2.toNatClampNeg) 2) else none)) else (some (.inl (x2 + 1, s))))
theorem P193_89 {d ex : Nat} {rr : m_R} {s : g_S} {p1 : Int32} {x2 : Int32} {x3 : Int32} {x4 : Int32}   {z : ((Int32 × g_S) ⊕ (g_S))} (H : f193_89 s p1 x2 x3 x4 = some z) (hd : 12 ≤ d) (K0 : ∀ S : Int32 × g_S, z = .inl S → ∀ u3 u4 : Option Value, n_R X (d + 1) 193 36 [some (.ref 199), some (.int p1), some (.int S.1), u3, u4] [] (g_M S.2 ex) rr) (Kr : ∀ q, z = .inr (q) → g_rSV q ex = rr) : n_R X (d + 1) 193 89 [some (.ref 199), some (.int p1), some (.int x2), some (.int x3), some (.int x4)] [] (g_M s ex) rr := by
  unfold f193_89 at H
  refine g_go 2 md_193 (i1 := 91) rfl ?_
  by_cases h1 : x4 = 5
  · rw [if_pos h1] at H
    refine n_cmpF (n_q md_193 rfl) (fun e1 => of_decide_eq_true e1 h1) ?_
    refine g_go 2 md_193 (i1 := 94) rfl ?_
    by_cases h2 : x3 = 0
    · rw [if_pos h2] at H
      refine n_ifT (n_q md_193 rfl) (decide_eq_true h2) ?_
      refine g_go 1 md_193 (i1 := 103) rfl ?_
      refine g_getf (n_q md_193 rfl) t_199 rfl ?_
      exact P193_104 H hd K0 Kr
    · rw [if_neg h2] at H
      refine n_ifF (n_q md_193 rfl) (fun e1 => h2 (of_decide_eq_true e1)) ?_
      refine g_go 1 md_193 (i1 := 96) rfl ?_
      refine g_getr 259 (n_q md_193 rfl) t_199 rfl ?_
      refine g_go 1 md_193 (i1 := 98) rfl ?_
      obtain ⟨h3, H⟩ := g_gd H
      refine g_aald (n_q md_193 rfl) ta_259 (by decide) h3 (g_range (g_inlt h3)) ?_
      refine g_go 1 md_193 (i1 := 100) rfl ?_
      refine g_iald (n_q md_193 rfl) (te_259 (g_inlt h3)) (rfl : m_in 2 3 = true) ?_
      refine g_go 1 md_193 (i1 := 104) rfl ?_
      exact P193_104 H hd K0 Kr
  · rw [if_neg h1] at H
    refine n_cmpT (n_q md_193 rfl) (decide_eq_true h1) ?_
    refine g_go 2 md_193 (i1 := 36) (ls1 := [some (.ref 199), some (.int p1), some (.int (x2 + 1)), some (.int x3), some (.int x4)]) rfl ?_
    cases H
    exact K0 (x2 + 1, s) rfl _ _
noncomputable def f193_88 (s : g_S) (p1 : Int32) (x2 : Int32) (x3 : Int32) (x4 : Int32) (y1 : Int32) : Option ((Int32 × g_S) ⊕ (g_S)) := (g_let (g_w s 199 28 y1) fun s1 => f193_89 s1 p1 x2 x3 x4)
theorem P193_88 {d ex : Nat} {rr : m_R} {s : g_S} {p1 : Int32} {x2 : Int32} {x3 : Int32} {x4 : Int32} {y1 : Int32}   {z : ((Int32 × g_S) ⊕ (g_S))} (H : f193_88 s p1 x2 x3 x4 y1 = some z) (hd : 12 ≤ d) (K0 : ∀ S : Int32 × g_S, z = .inl S → ∀ u3 u4 : Option Value, n_R X (d + 1) 193 36 [some (.ref 199), some (.int p1), some (.int S.1), u3, u4] [] (g_M S.2 ex) rr) (Kr : ∀ q, z = .inr (q) → g_rSV q ex = rr) : n_R X (d + 1) 193 88 [some (.ref 199), some (.int p1), some (.int x2), some (.int x3), some (.int x4)] [.int y1, .ref 199] (g_M s ex) rr := by
  unfold f193_88 at H
  obtain ⟨s1, es1, H⟩ := g_letp H
  refine g_putf (n_q md_193 rfl) t_199 rfl rfl es1 ?_
  exact P193_89 H hd K0 Kr
noncomputable def f193_73 (s : g_S) (p1 : Int32) (x2 : Int32) (x3 : Int32) (x4 : Int32) : Option ((Int32 × g_S) ⊕ (g_S)) := (if x4 = 4 then (if x3 = 0 then (f193_88 s p1 x2 x3 x4 (s 199 46)) else (if m_in x2 8 = true then f193_88 s p1 x2 x3 x4 (s (260 + x2.toNatClampNeg) 2) else none)) else (f193_89 s p1 x2 x3 x4))
theorem P193_73 {d ex : Nat} {rr : m_R} {s : g_S} {p1 : Int32} {x2 : Int32} {x3 : Int32} {x4 : Int32}   {z : ((Int32 × g_S) ⊕ (g_S))} (H : f193_73 s p1 x2 x3 x4 = some z) (hd : 12 ≤ d) (K0 : ∀ S : Int32 × g_S, z = .inl S → ∀ u3 u4 : Option Value, n_R X (d + 1) 193 36 [some (.ref 199), some (.int p1), some (.int S.1), u3, u4] [] (g_M S.2 ex) rr) (Kr : ∀ q, z = .inr (q) → g_rSV q ex = rr) : n_R X (d + 1) 193 73 [some (.ref 199), some (.int p1), some (.int x2), some (.int x3), some (.int x4)] [] (g_M s ex) rr := by
  unfold f193_73 at H
  refine g_go 2 md_193 (i1 := 75) rfl ?_
  by_cases h1 : x4 = 4
  · rw [if_pos h1] at H
    refine n_cmpF (n_q md_193 rfl) (fun e1 => of_decide_eq_true e1 h1) ?_
    refine g_go 2 md_193 (i1 := 78) rfl ?_
    by_cases h2 : x3 = 0
    · rw [if_pos h2] at H
      refine n_ifT (n_q md_193 rfl) (decide_eq_true h2) ?_
      refine g_go 1 md_193 (i1 := 87) rfl ?_
      refine g_getf (n_q md_193 rfl) t_199 rfl ?_
      exact P193_88 H hd K0 Kr
    · rw [if_neg h2] at H
      refine n_ifF (n_q md_193 rfl) (fun e1 => h2 (of_decide_eq_true e1)) ?_
      refine g_go 1 md_193 (i1 := 80) rfl ?_
      refine g_getr 259 (n_q md_193 rfl) t_199 rfl ?_
      refine g_go 1 md_193 (i1 := 82) rfl ?_
      obtain ⟨h3, H⟩ := g_gd H
      refine g_aald (n_q md_193 rfl) ta_259 (by decide) h3 (g_range (g_inlt h3)) ?_
      refine g_go 1 md_193 (i1 := 84) rfl ?_
      refine g_iald (n_q md_193 rfl) (te_259 (g_inlt h3)) (rfl : m_in 2 3 = true) ?_
      refine g_go 1 md_193 (i1 := 88) rfl ?_
      exact P193_88 H hd K0 Kr
  · rw [if_neg h1] at H
    refine n_cmpT (n_q md_193 rfl) (decide_eq_true h1) ?_
    exact P193_89 H hd K0 Kr
noncomputable def f193_50 (s : g_S) (p1 : Int32) (x2 : Int32) (y0 : Int32) : Option ((Int32 × g_S) ⊕ (g_S)) := (if m_in x2 8 = true then if (s (260 + x2.toNatClampNeg) 0) < 4 then (if m_in (s (260 + x2.toNatClampNeg) 1) 13 = true then if m_in (s (260 + x2.toNatClampNeg) 0) 4 = true then if m_isb y0 = true then g_let (g_w s (225 + (s (260 + x2.toNatClampNeg) 1).toNatClampNeg) (s (260 + x2.toNatClampNeg) 0).toNatClampNeg y0) fun s6 => f193_73 s6 p1 x2 y0 (s (260 + x2.toNatClampNeg) 0) else none else none else none) else (f193_73 s p1 x2 y0 (s (260 + x2.toNatClampNeg) 0)) else none)
theorem P193_50 {d ex : Nat} {rr : m_R} {s : g_S} {p1 : Int32} {x2 : Int32} {y0 : Int32} {u3 u4 : Option Value}   {z : ((Int32 × g_S) ⊕ (g_S))} (H : f193_50 s p1 x2 y0 = some z) (hd : 12 ≤ d) (K0 : ∀ S : Int32 × g_S, z = .inl S → ∀ u3 u4 : Option Value, n_R X (d + 1) 193 36 [some (.ref 199), some (.int p1), some (.int S.1), u3, u4] [] (g_M S.2 ex) rr) (Kr : ∀ q, z = .inr (q) → g_rSV q ex = rr) : n_R X (d + 1) 193 50 [some (.ref 199), some (.int p1), some (.int x2), u3, u4] [.int y0] (g_M s ex) rr := by
  unfold f193_50 at H
  refine g_go 2 md_193 (i1 := 52) (ls1 := [some (.ref 199), some (.int p1), some (.int x2), some (.int y0), u4]) rfl ?_
  refine g_getr 259 (n_q md_193 rfl) t_199 rfl ?_
  refine g_go 1 md_193 (i1 := 54) rfl ?_
  obtain ⟨h1, H⟩ := g_gd H
  refine g_aald (n_q md_193 rfl) ta_259 (by decide) h1 (g_range (g_inlt h1)) ?_
  refine g_go 1 md_193 (i1 := 56) rfl ?_
  refine g_iald (n_q md_193 rfl) (te_259 (g_inlt h1)) (rfl : m_in 0 3 = true) ?_
  refine g_go 3 md_193 (i1 := 60) (ls1 := [some (.ref 199), some (.int p1), some (.int x2), some (.int y0), some (.int (s (260 + x2.toNatClampNeg) 0))]) rfl ?_
  by_cases h2 : (s (260 + x2.toNatClampNeg) 0) < 4
  · rw [if_pos h2] at H
    refine n_cmpF (n_q md_193 rfl) (fun e1 => absurd (of_decide_eq_true e1) (Int32.not_le.mpr h2)) ?_
    refine g_go 1 md_193 (i1 := 62) rfl ?_
    refine g_getr 224 (n_q md_193 rfl) t_199 rfl ?_
    refine g_go 1 md_193 (i1 := 64) rfl ?_
    refine g_getr 259 (n_q md_193 rfl) t_199 rfl ?_
    refine g_go 1 md_193 (i1 := 66) rfl ?_
    refine g_aald (n_q md_193 rfl) ta_259 (by decide) h1 (g_range (g_inlt h1)) ?_
    refine g_go 1 md_193 (i1 := 68) rfl ?_
    refine g_iald (n_q md_193 rfl) (te_259 (g_inlt h1)) (rfl : m_in 1 3 = true) ?_
    obtain ⟨h3, H⟩ := g_gd H
    refine g_aald (n_q md_193 rfl) ta_224 (by decide) h3 (g_range (g_inlt h3)) ?_
    refine g_go 2 md_193 (i1 := 72) rfl ?_
    obtain ⟨h4, H⟩ := g_gd H
    obtain ⟨hb5, H⟩ := g_gd H
    obtain ⟨s6, es6, H⟩ := g_letp H
    refine g_bast (n_q md_193 rfl) (te_224 (g_inlt h3)) h4 hb5 es6 ?_
    exact P193_73 H hd K0 Kr
  · rw [if_neg h2] at H
    refine n_cmpT (n_q md_193 rfl) (decide_eq_true (Int32.not_lt.mp h2)) ?_
    exact P193_73 H hd K0 Kr
noncomputable def f193_36 (s : g_S) (p1 : Int32) (x2 : Int32) : Option ((Int32 × g_S) ⊕ (g_S)) := (if x2 < (s 199 43) then (if ((p1 >>> (x2 &&& 31)) &&& 1) = 1 then (f193_50 s p1 x2 1) else (f193_50 s p1 x2 0)) else (some (.inr (s))))
theorem P193_36 {d ex : Nat} {rr : m_R} {s : g_S} {p1 : Int32} {x2 : Int32} {u3 u4 : Option Value}   {z : ((Int32 × g_S) ⊕ (g_S))} (H : f193_36 s p1 x2 = some z) (hd : 12 ≤ d) (K0 : ∀ S : Int32 × g_S, z = .inl S → ∀ u3 u4 : Option Value, n_R X (d + 1) 193 36 [some (.ref 199), some (.int p1), some (.int S.1), u3, u4] [] (g_M S.2 ex) rr) (Kr : ∀ q, z = .inr (q) → g_rSV q ex = rr) : n_R X (d + 1) 193 36 [some (.ref 199), some (.int p1), some (.int x2), u3, u4] [] (g_M s ex) rr := by
  unfold f193_36 at H
  refine g_go 2 md_193 (i1 := 38) rfl ?_
  refine g_getf (n_q md_193 rfl) t_199 rfl ?_
  by_cases h1 : x2 < (s 199 43)
  · rw [if_pos h1] at H
    refine n_cmpF (n_q md_193 rfl) (fun e1 => absurd (of_decide_eq_true e1) (Int32.not_le.mpr h1)) ?_
    refine g_go 6 md_193 (i1 := 46) rfl ?_
    by_cases h2 : ((p1 >>> (x2 &&& 31)) &&& 1) = 1
    · rw [if_pos h2] at H
      refine n_cmpF (n_q md_193 rfl) (fun e1 => of_decide_eq_true e1 h2) ?_
      refine g_go 2 md_193 (i1 := 50) rfl ?_
      exact P193_50 H hd K0 Kr
    · rw [if_neg h2] at H
      refine n_cmpT (n_q md_193 rfl) (decide_eq_true h2) ?_
      refine g_go 1 md_193 (i1 := 50) rfl ?_
      exact P193_50 H hd K0 Kr
  · rw [if_neg h1] at H
    refine n_cmpT (n_q md_193 rfl) (decide_eq_true (Int32.not_lt.mp h1)) ?_
    cases H
    rw [← Kr _ rfl]
    exact n_end (n_q md_193 rfl) (fun _ => rfl)
noncomputable def f193_36L (s : g_S) (p1 : Int32) (x2 : Int32) : Option (g_S) := g_run (fun S : Int32 × g_S => f193_36 S.2 p1 S.1) (x2, s)
theorem f193_36L_eq (s : g_S) (p1 : Int32) (x2 : Int32) : f193_36L s p1 x2 = g_st (f193_36 s p1 x2) (fun S => f193_36L S.2 p1 S.1) := by
  unfold f193_36L
  exact g_run_eq _ _
theorem P193_36L {d ex : Nat} {s : g_S} {p1 : Int32} {x2 : Int32} {u3 u4 : Option Value}   {z : (g_S)} (H : f193_36L s p1 x2 = some z) (hd : 12 ≤ d)  : n_R X (d + 1) 193 36 [some (.ref 199), some (.int p1), some (.int x2), u3, u4] [] (g_M s ex) (g_rSV z ex) := by
  unfold f193_36L at H
  refine g_rs (Q := fun S => ∀ u3 u4 : Option Value, n_R X (d + 1) 193 36 [some (.ref 199), some (.int p1), some (.int S.1), u3, u4] [] (g_M S.2 ex) (g_rSV z ex)) H ?_ u3 u4
  intro S w hb K0 KK u3 u4
  refine P193_36 hb hd ?_ ?_
  · exact fun S1 e1 => K0 S1 e1
  · exact fun q e1 => by rw [KK q e1]
noncomputable def f193_15 (s : g_S) (p1 : Int32) (x2 : Int32) (x3 : Int32) : Option ((Int32 × g_S) ⊕ ((Int32 × g_S) ⊕ (g_S))) := (if x3 < 4 then (if m_in x2 13 = true then if m_in x3 4 = true then if m_isb (s (225 + x2.toNatClampNeg) x3.toNatClampNeg) = true then g_let (g_w s (269 + x2.toNatClampNeg) x3.toNatClampNeg (s (225 + x2.toNatClampNeg) x3.toNatClampNeg)) fun s5 => some (.inl (x3 + 1, s5)) else none else none else none) else (some (.inr (.inl (x2 + 1, s)))))
theorem P193_15 {d ex : Nat} {rr : m_R} {s : g_S} {p1 : Int32} {x2 : Int32} {x3 : Int32} {u4 : Option Value}   {z : ((Int32 × g_S) ⊕ ((Int32 × g_S) ⊕ (g_S)))} (H : f193_15 s p1 x2 x3 = some z) (hd : 12 ≤ d) (K0 : ∀ S : Int32 × g_S, z = .inl S → ∀ u4 : Option Value, n_R X (d + 1) 193 15 [some (.ref 199), some (.int p1), some (.int x2), some (.int S.1), u4] [] (g_M S.2 ex) rr) (K1 : ∀ S : Int32 × g_S, z = .inr (.inl S) → ∀ u3 u4 : Option Value, n_R X (d + 1) 193 10 [some (.ref 199), some (.int p1), some (.int S.1), u3, u4] [] (g_M S.2 ex) rr) (Kr : ∀ q, z = .inr (.inr (q)) → g_rSV q ex = rr) : n_R X (d + 1) 193 15 [some (.ref 199), some (.int p1), some (.int x2), some (.int x3), u4] [] (g_M s ex) rr := by
  unfold f193_15 at H
  refine g_go 2 md_193 (i1 := 17) rfl ?_
  by_cases h1 : x3 < 4
  · rw [if_pos h1] at H
    refine n_cmpF (n_q md_193 rfl) (fun e1 => absurd (of_decide_eq_true e1) (Int32.not_le.mpr h1)) ?_
    refine g_go 1 md_193 (i1 := 19) rfl ?_
    refine g_getr 268 (n_q md_193 rfl) t_199 rfl ?_
    refine g_go 1 md_193 (i1 := 21) rfl ?_
    obtain ⟨h2, H⟩ := g_gd H
    refine g_aald (n_q md_193 rfl) ta_268 (by decide) h2 (g_range (g_inlt h2)) ?_
    refine g_go 2 md_193 (i1 := 24) rfl ?_
    refine g_getr 224 (n_q md_193 rfl) t_199 rfl ?_
    refine g_go 1 md_193 (i1 := 26) rfl ?_
    refine g_aald (n_q md_193 rfl) ta_224 (by decide) h2 (g_range (g_inlt h2)) ?_
    refine g_go 1 md_193 (i1 := 28) rfl ?_
    obtain ⟨h3, H⟩ := g_gd H
    refine g_bald (n_q md_193 rfl) (te_224 (g_inlt h2)) h3 ?_
    obtain ⟨hb4, H⟩ := g_gd H
    obtain ⟨s5, es5, H⟩ := g_letp H
    refine g_bast (n_q md_193 rfl) (te_268 (g_inlt h2)) h3 hb4 es5 ?_
    refine g_go 2 md_193 (i1 := 15) (ls1 := [some (.ref 199), some (.int p1), some (.int x2), some (.int (x3 + 1)), u4]) rfl ?_
    cases H
    exact K0 (x3 + 1, s5) rfl _
  · rw [if_neg h1] at H
    refine n_cmpT (n_q md_193 rfl) (decide_eq_true (Int32.not_lt.mp h1)) ?_
    refine g_go 2 md_193 (i1 := 10) (ls1 := [some (.ref 199), some (.int p1), some (.int (x2 + 1)), some (.int x3), u4]) rfl ?_
    cases H
    exact K1 (x2 + 1, s) rfl _ _
noncomputable def f193_15L (s : g_S) (p1 : Int32) (x2 : Int32) (x3 : Int32) : Option ((Int32 × g_S) ⊕ (g_S)) := g_run (fun S : Int32 × g_S => f193_15 S.2 p1 x2 S.1) (x3, s)
theorem f193_15L_eq (s : g_S) (p1 : Int32) (x2 : Int32) (x3 : Int32) : f193_15L s p1 x2 x3 = g_st (f193_15 s p1 x2 x3) (fun S => f193_15L S.2 p1 x2 S.1) := by
  unfold f193_15L
  exact g_run_eq _ _
theorem P193_15L {d ex : Nat} {rr : m_R} {s : g_S} {p1 : Int32} {x2 : Int32} {x3 : Int32} {u4 : Option Value}   {z : ((Int32 × g_S) ⊕ (g_S))} (H : f193_15L s p1 x2 x3 = some z) (hd : 12 ≤ d) (K0 : ∀ S : Int32 × g_S, z = .inl S → ∀ u3 u4 : Option Value, n_R X (d + 1) 193 10 [some (.ref 199), some (.int p1), some (.int S.1), u3, u4] [] (g_M S.2 ex) rr) (Kr : ∀ q, z = .inr (q) → g_rSV q ex = rr) : n_R X (d + 1) 193 15 [some (.ref 199), some (.int p1), some (.int x2), some (.int x3), u4] [] (g_M s ex) rr := by
  unfold f193_15L at H
  have KO0 := K0
  have KOr := Kr
  refine g_rs (Q := fun S => ∀ u4 : Option Value, n_R X (d + 1) 193 15 [some (.ref 199), some (.int p1), some (.int x2), some (.int S.1), u4] [] (g_M S.2 ex) rr) H ?_ u4
  intro S w hb K0 KK u4
  refine P193_15 hb hd ?_ ?_ ?_
  · exact fun S1 e1 => K0 S1 e1
  · exact fun S1 e1 => KO0 S1 (KK _ e1).symm
  · exact fun q e1 => KOr q (KK _ e1).symm
noncomputable def f193_10 (s : g_S) (p1 : Int32) (x2 : Int32) : Option ((Int32 × g_S) ⊕ (g_S)) := (if x2 < 13 then (f193_15L s p1 x2 0) else (Option.map (fun w => (.inr (w) : ((Int32 × g_S) ⊕ (g_S)))) (f193_36L s p1 0)))
theorem P193_10 {d ex : Nat} {rr : m_R} {s : g_S} {p1 : Int32} {x2 : Int32} {u3 u4 : Option Value}   {z : ((Int32 × g_S) ⊕ (g_S))} (H : f193_10 s p1 x2 = some z) (hd : 12 ≤ d) (K0 : ∀ S : Int32 × g_S, z = .inl S → ∀ u3 u4 : Option Value, n_R X (d + 1) 193 10 [some (.ref 199), some (.int p1), some (.int S.1), u3, u4] [] (g_M S.2 ex) rr) (Kr : ∀ q, z = .inr (q) → g_rSV q ex = rr) : n_R X (d + 1) 193 10 [some (.ref 199), some (.int p1), some (.int x2), u3, u4] [] (g_M s ex) rr := by
  unfold f193_10 at H
  refine g_go 2 md_193 (i1 := 12) rfl ?_
  by_cases h1 : x2 < 13
  · rw [if_pos h1] at H
    refine n_cmpF (n_q md_193 rfl) (fun e1 => absurd (of_decide_eq_true e1) (Int32.not_le.mpr h1)) ?_
    refine g_go 2 md_193 (i1 := 15) (ls1 := [some (.ref 199), some (.int p1), some (.int x2), some (.int 0), u4]) rfl ?_
    exact P193_15L H hd K0 Kr
  · rw [if_neg h1] at H
    refine n_cmpT (n_q md_193 rfl) (decide_eq_true (Int32.not_lt.mp h1)) ?_
    refine g_go 2 md_193 (i1 := 36) (ls1 := [some (.ref 199), some (.int p1), some (.int 0), u3, u4]) rfl ?_
    obtain ⟨w, hw, H⟩ := g_mapp H
    subst H
    rw [← Kr _ rfl]
    exact P193_36L hw hd
noncomputable def f193_10L (s : g_S) (p1 : Int32) (x2 : Int32) : Option (g_S) := g_run (fun S : Int32 × g_S => f193_10 S.2 p1 S.1) (x2, s)
theorem f193_10L_eq (s : g_S) (p1 : Int32) (x2 : Int32) : f193_10L s p1 x2 = g_st (f193_10 s p1 x2) (fun S => f193_10L S.2 p1 S.1) := by
  unfold f193_10L
  exact g_run_eq _ _
theorem P193_10L {d ex : Nat} {s : g_S} {p1 : Int32} {x2 : Int32} {u3 u4 : Option Value}   {z : (g_S)} (H : f193_10L s p1 x2 = some z) (hd : 12 ≤ d)  : n_R X (d + 1) 193 10 [some (.ref 199), some (.int p1), some (.int x2), u3, u4] [] (g_M s ex) (g_rSV z ex) := by
  unfold f193_10L at H
  refine g_rs (Q := fun S => ∀ u3 u4 : Option Value, n_R X (d + 1) 193 10 [some (.ref 199), some (.int p1), some (.int S.1), u3, u4] [] (g_M S.2 ex) (g_rSV z ex)) H ?_ u3 u4
  intro S w hb K0 KK u3 u4
  refine P193_10 hb hd ?_ ?_
  · exact fun S1 e1 => K0 S1 e1
  · exact fun q e1 => by rw [KK q e1]
noncomputable def f193 (s : g_S) (p1 : Int32) : Option (g_S) := (g_let (g_w s 199 46 (s 199 28)) fun s1 => g_let (g_w s1 199 47 (s1 199 29)) fun s2 => f193_10L s2 p1 0)
theorem C193 {d ex : Nat} {s : g_S} {p1 : Int32}  {z : g_S} (hd : 12 < d) (H : f193 s p1 = some z) : n_C X d 193 [.ref 199, .int p1] (g_M s ex) (g_rSV z ex) := by
  obtain ⟨d, rfl⟩ : ∃ d1, d = d1 + 1 := ⟨d - 1, by omega⟩
  replace hd := Nat.le_of_lt_succ hd
  refine ⟨Nat.le_of_ble_eq_true rfl, ?_⟩
  rw [md_193]
  show n_R X (d + 1) 193 0 [some (.ref 199), some (.int p1), none, none, none] [] (g_M s ex) _
  unfold f193 at H
  refine g_go 2 md_193 (i1 := 2) rfl ?_
  refine g_getf (n_q md_193 rfl) t_199 rfl ?_
  obtain ⟨s1, es1, H⟩ := g_letp H
  refine g_putf (n_q md_193 rfl) t_199 rfl rfl es1 ?_
  refine g_go 2 md_193 (i1 := 6) rfl ?_
  refine g_getf (n_q md_193 rfl) t_199 rfl ?_
  obtain ⟨s2, es2, H⟩ := g_letp H
  refine g_putf (n_q md_193 rfl) t_199 rfl rfl es2 ?_
  refine g_go 2 md_193 (i1 := 10) (ls1 := [some (.ref 199), some (.int p1), some (.int 0), none, none]) rfl ?_
  exact P193_10L H hd

theorem md_194 : m_md 194 = m_X8_comesBack := rfl
noncomputable def f194_15 (s : g_S) (x1 : Int32) (x2 : Int32) : Option ((Int32 × g_S) ⊕ ((Int32 × g_S) ⊕ (g_S))) := (if x2 < 4 then (if m_in x1 13 = true then if m_in x2 4 = true then if m_isb (s (269 + x1.toNatClampNeg) x2.toNatClampNeg) = true then g_let (g_w s (225 + x1.toNatClampNeg) x2.toNatClampNeg (s (269 + x1.toNatClampNeg) x2.toNatClampNeg)) fun s5 => some (.inl (x2 + 1, s5)) else none else none else none) else (some (.inr (.inl (x1 + 1, s)))))
theorem P194_15 {d ex : Nat} {rr : m_R} {s : g_S} {x1 : Int32} {x2 : Int32}   {z : ((Int32 × g_S) ⊕ ((Int32 × g_S) ⊕ (g_S)))} (H : f194_15 s x1 x2 = some z) (hd : 12 ≤ d) (K0 : ∀ S : Int32 × g_S, z = .inl S → n_R X (d + 1) 194 15 [some (.ref 199), some (.int x1), some (.int S.1)] [] (g_M S.2 ex) rr) (K1 : ∀ S : Int32 × g_S, z = .inr (.inl S) → ∀ u2 : Option Value, n_R X (d + 1) 194 10 [some (.ref 199), some (.int S.1), u2] [] (g_M S.2 ex) rr) (Kr : ∀ q, z = .inr (.inr (q)) → g_rSV q ex = rr) : n_R X (d + 1) 194 15 [some (.ref 199), some (.int x1), some (.int x2)] [] (g_M s ex) rr := by
  unfold f194_15 at H
  refine g_go 2 md_194 (i1 := 17) rfl ?_
  by_cases h1 : x2 < 4
  · rw [if_pos h1] at H
    refine n_cmpF (n_q md_194 rfl) (fun e1 => absurd (of_decide_eq_true e1) (Int32.not_le.mpr h1)) ?_
    refine g_go 1 md_194 (i1 := 19) rfl ?_
    refine g_getr 224 (n_q md_194 rfl) t_199 rfl ?_
    refine g_go 1 md_194 (i1 := 21) rfl ?_
    obtain ⟨h2, H⟩ := g_gd H
    refine g_aald (n_q md_194 rfl) ta_224 (by decide) h2 (g_range (g_inlt h2)) ?_
    refine g_go 2 md_194 (i1 := 24) rfl ?_
    refine g_getr 268 (n_q md_194 rfl) t_199 rfl ?_
    refine g_go 1 md_194 (i1 := 26) rfl ?_
    refine g_aald (n_q md_194 rfl) ta_268 (by decide) h2 (g_range (g_inlt h2)) ?_
    refine g_go 1 md_194 (i1 := 28) rfl ?_
    obtain ⟨h3, H⟩ := g_gd H
    refine g_bald (n_q md_194 rfl) (te_268 (g_inlt h2)) h3 ?_
    obtain ⟨hb4, H⟩ := g_gd H
    obtain ⟨s5, es5, H⟩ := g_letp H
    refine g_bast (n_q md_194 rfl) (te_224 (g_inlt h2)) h3 hb4 es5 ?_
    refine g_go 2 md_194 (i1 := 15) (ls1 := [some (.ref 199), some (.int x1), some (.int (x2 + 1))]) rfl ?_
    cases H
    exact K0 (x2 + 1, s5) rfl
  · rw [if_neg h1] at H
    refine n_cmpT (n_q md_194 rfl) (decide_eq_true (Int32.not_lt.mp h1)) ?_
    refine g_go 2 md_194 (i1 := 10) (ls1 := [some (.ref 199), some (.int (x1 + 1)), some (.int x2)]) rfl ?_
    cases H
    exact K1 (x1 + 1, s) rfl _
noncomputable def f194_15L (s : g_S) (x1 : Int32) (x2 : Int32) : Option ((Int32 × g_S) ⊕ (g_S)) := g_run (fun S : Int32 × g_S => f194_15 S.2 x1 S.1) (x2, s)
theorem f194_15L_eq (s : g_S) (x1 : Int32) (x2 : Int32) : f194_15L s x1 x2 = g_st (f194_15 s x1 x2) (fun S => f194_15L S.2 x1 S.1) := by
  unfold f194_15L
  exact g_run_eq _ _
theorem P194_15L {d ex : Nat} {rr : m_R} {s : g_S} {x1 : Int32} {x2 : Int32}   {z : ((Int32 × g_S) ⊕ (g_S))} (H : f194_15L s x1 x2 = some z) (hd : 12 ≤ d) (K0 : ∀ S : Int32 × g_S, z = .inl S → ∀ u2 : Option Value, n_R X (d + 1) 194 10 [some (.ref 199), some (.int S.1), u2] [] (g_M S.2 ex) rr) (Kr : ∀ q, z = .inr (q) → g_rSV q ex = rr) : n_R X (d + 1) 194 15 [some (.ref 199), some (.int x1), some (.int x2)] [] (g_M s ex) rr := by
  unfold f194_15L at H
  have KO0 := K0
  have KOr := Kr
  refine g_rs (Q := fun S => n_R X (d + 1) 194 15 [some (.ref 199), some (.int x1), some (.int S.1)] [] (g_M S.2 ex) rr) H ?_
  intro S w hb K0 KK
  refine P194_15 hb hd ?_ ?_ ?_
  · exact fun S1 e1 => K0 S1 e1
  · exact fun S1 e1 => KO0 S1 (KK _ e1).symm
  · exact fun q e1 => KOr q (KK _ e1).symm
noncomputable def f194_10 (s : g_S) (x1 : Int32) : Option ((Int32 × g_S) ⊕ (g_S)) := (if x1 < 13 then (f194_15L s x1 0) else (some (.inr (s))))
theorem P194_10 {d ex : Nat} {rr : m_R} {s : g_S} {x1 : Int32} {u2 : Option Value}   {z : ((Int32 × g_S) ⊕ (g_S))} (H : f194_10 s x1 = some z) (hd : 12 ≤ d) (K0 : ∀ S : Int32 × g_S, z = .inl S → ∀ u2 : Option Value, n_R X (d + 1) 194 10 [some (.ref 199), some (.int S.1), u2] [] (g_M S.2 ex) rr) (Kr : ∀ q, z = .inr (q) → g_rSV q ex = rr) : n_R X (d + 1) 194 10 [some (.ref 199), some (.int x1), u2] [] (g_M s ex) rr := by
  unfold f194_10 at H
  refine g_go 2 md_194 (i1 := 12) rfl ?_
  by_cases h1 : x1 < 13
  · rw [if_pos h1] at H
    refine n_cmpF (n_q md_194 rfl) (fun e1 => absurd (of_decide_eq_true e1) (Int32.not_le.mpr h1)) ?_
    refine g_go 2 md_194 (i1 := 15) (ls1 := [some (.ref 199), some (.int x1), some (.int 0)]) rfl ?_
    exact P194_15L H hd K0 Kr
  · rw [if_neg h1] at H
    refine n_cmpT (n_q md_194 rfl) (decide_eq_true (Int32.not_lt.mp h1)) ?_
    cases H
    rw [← Kr _ rfl]
    exact n_end (n_q md_194 rfl) (fun _ => rfl)
noncomputable def f194_10L (s : g_S) (x1 : Int32) : Option (g_S) := g_run (fun S : Int32 × g_S => f194_10 S.2 S.1) (x1, s)
theorem f194_10L_eq (s : g_S) (x1 : Int32) : f194_10L s x1 = g_st (f194_10 s x1) (fun S => f194_10L S.2 S.1) := by
  unfold f194_10L
  exact g_run_eq _ _
theorem P194_10L {d ex : Nat} {s : g_S} {x1 : Int32} {u2 : Option Value}   {z : (g_S)} (H : f194_10L s x1 = some z) (hd : 12 ≤ d)  : n_R X (d + 1) 194 10 [some (.ref 199), some (.int x1), u2] [] (g_M s ex) (g_rSV z ex) := by
  unfold f194_10L at H
  refine g_rs (Q := fun S => ∀ u2 : Option Value, n_R X (d + 1) 194 10 [some (.ref 199), some (.int S.1), u2] [] (g_M S.2 ex) (g_rSV z ex)) H ?_ u2
  intro S w hb K0 KK u2
  refine P194_10 hb hd ?_ ?_
  · exact fun S1 e1 => K0 S1 e1
  · exact fun q e1 => by rw [KK q e1]
noncomputable def f194 (s : g_S) : Option (g_S) := (g_let (g_w s 199 28 (s 199 46)) fun s1 => g_let (g_w s1 199 29 (s1 199 47)) fun s2 => f194_10L s2 0)
theorem C194 {d ex : Nat} {s : g_S}  {z : g_S} (hd : 12 < d) (H : f194 s = some z) : n_C X d 194 [.ref 199] (g_M s ex) (g_rSV z ex) := by
  obtain ⟨d, rfl⟩ : ∃ d1, d = d1 + 1 := ⟨d - 1, by omega⟩
  replace hd := Nat.le_of_lt_succ hd
  refine ⟨Nat.le_of_ble_eq_true rfl, ?_⟩
  rw [md_194]
  show n_R X (d + 1) 194 0 [some (.ref 199), none, none] [] (g_M s ex) _
  unfold f194 at H
  refine g_go 2 md_194 (i1 := 2) rfl ?_
  refine g_getf (n_q md_194 rfl) t_199 rfl ?_
  obtain ⟨s1, es1, H⟩ := g_letp H
  refine g_putf (n_q md_194 rfl) t_199 rfl rfl es1 ?_
  refine g_go 2 md_194 (i1 := 6) rfl ?_
  refine g_getf (n_q md_194 rfl) t_199 rfl ?_
  obtain ⟨s2, es2, H⟩ := g_letp H
  refine g_putf (n_q md_194 rfl) t_199 rfl rfl es2 ?_
  refine g_go 2 md_194 (i1 := 10) (ls1 := [some (.ref 199), some (.int 0), none]) rfl ?_
  exact P194_10L H hd

theorem md_195 : m_md 195 = m_X8_caseMany := rfl
noncomputable def f195 (s : g_S) : Option (Int32) := (some ((1 : Int32) <<< ((s 199 43) &&& 31)))
theorem C195 {d ex : Nat} {s : g_S}  {z : Int32} (hd : 12 < d) (H : f195 s = some z) : n_C X d 195 [.ref 199] (g_M s ex) (g_rPI s z ex) := by
  obtain ⟨d, rfl⟩ : ∃ d1, d = d1 + 1 := ⟨d - 1, by omega⟩
  replace hd := Nat.le_of_lt_succ hd
  refine ⟨Nat.le_of_ble_eq_true rfl, ?_⟩
  rw [md_195]
  show n_R X (d + 1) 195 0 [some (.ref 199)] [] (g_M s ex) _
  unfold f195 at H
  refine g_go 2 md_195 (i1 := 2) rfl ?_
  refine g_getf (n_q md_195 rfl) t_199 rfl ?_
  refine g_go 1 md_195 (i1 := 4) rfl ?_
  cases H
  exact n_iret (n_q md_195 rfl) (Or.inl rfl)

theorem md_196 : m_md 196 = m_X8_findCases := rfl
noncomputable def f196_30 (s : g_S) (x1 : Int32) : Option ((Int32 × g_S) ⊕ (g_S)) := ((f194 s).bind fun s2 => some (.inl (x1 + 1, s2)))
theorem P196_30 {d ex : Nat} {rr : m_R} {s : g_S} {x1 : Int32} {u2 : Option Value}   {z : ((Int32 × g_S) ⊕ (g_S))} (H : f196_30 s x1 = some z) (hd : 81 ≤ d) (K0 : ∀ S : Int32 × g_S, z = .inl S → ∀ u2 : Option Value, n_R X (d + 1) 196 2 [some (.ref 199), some (.int S.1), u2] [] (g_M S.2 ex) rr) (Kr : ∀ q, z = .inr (q) → g_rSV q ex = rr) : n_R X (d + 1) 196 30 [some (.ref 199), some (.int x1), u2] [] (g_M s ex) rr := by
  unfold f196_30 at H
  refine g_go 1 md_196 (i1 := 31) rfl ?_
  obtain ⟨s2, hs2, H⟩ := g_bind H
  refine n_call (n_q md_196 rfl) (As := [.ref 199]) (rest := []) rfl rfl (Nat.le_of_ble_eq_true rfl) rfl (g_recv (b := 0) rfl t_199 rfl) (C194 (by omega) hs2) ?_
  refine g_go 2 md_196 (i1 := 2) (ls1 := [some (.ref 199), some (.int (x1 + 1)), u2]) rfl ?_
  cases H
  exact K0 (x1 + 1, s2) rfl _
noncomputable def f196_15 (s : g_S) (x1 : Int32) (x2 : Int32) : Option ((Int32 × g_S) ⊕ ((Int32 × g_S) ⊕ (g_S))) := (if x2 < 13 then (if m_in x1 256 = true then if m_in x2 13 = true then g_let (g_w s (283 + x1.toNatClampNeg) x2.toNatClampNeg (s 242 x2.toNatClampNeg)) fun s4 => some (.inl (x2 + 1, s4)) else none else none) else (Option.map (fun w => (.inr (w) : ((Int32 × g_S) ⊕ ((Int32 × g_S) ⊕ (g_S))))) (f196_30 s x1)))
theorem P196_15 {d ex : Nat} {rr : m_R} {s : g_S} {x1 : Int32} {x2 : Int32}   {z : ((Int32 × g_S) ⊕ ((Int32 × g_S) ⊕ (g_S)))} (H : f196_15 s x1 x2 = some z) (hd : 81 ≤ d) (K0 : ∀ S : Int32 × g_S, z = .inl S → n_R X (d + 1) 196 15 [some (.ref 199), some (.int x1), some (.int S.1)] [] (g_M S.2 ex) rr) (K1 : ∀ S : Int32 × g_S, z = .inr (.inl S) → ∀ u2 : Option Value, n_R X (d + 1) 196 2 [some (.ref 199), some (.int S.1), u2] [] (g_M S.2 ex) rr) (Kr : ∀ q, z = .inr (.inr (q)) → g_rSV q ex = rr) : n_R X (d + 1) 196 15 [some (.ref 199), some (.int x1), some (.int x2)] [] (g_M s ex) rr := by
  unfold f196_15 at H
  refine g_go 2 md_196 (i1 := 17) rfl ?_
  by_cases h1 : x2 < 13
  · rw [if_pos h1] at H
    refine n_cmpF (n_q md_196 rfl) (fun e1 => absurd (of_decide_eq_true e1) (Int32.not_le.mpr h1)) ?_
    refine g_go 1 md_196 (i1 := 19) rfl ?_
    refine g_getr 282 (n_q md_196 rfl) t_199 rfl ?_
    refine g_go 1 md_196 (i1 := 21) rfl ?_
    obtain ⟨h2, H⟩ := g_gd H
    refine g_aald (n_q md_196 rfl) ta_282 (by decide) h2 (g_range (g_inlt h2)) ?_
    refine g_go 2 md_196 (i1 := 24) rfl ?_
    refine g_getr 242 (n_q md_196 rfl) t_199 rfl ?_
    refine g_go 1 md_196 (i1 := 26) rfl ?_
    obtain ⟨h3, H⟩ := g_gd H
    refine g_iald (n_q md_196 rfl) t_242 h3 ?_
    obtain ⟨s4, es4, H⟩ := g_letp H
    refine g_iast (n_q md_196 rfl) (te_282 (g_inlt h2)) h3 es4 ?_
    refine g_go 2 md_196 (i1 := 15) (ls1 := [some (.ref 199), some (.int x1), some (.int (x2 + 1))]) rfl ?_
    cases H
    exact K0 (x2 + 1, s4) rfl
  · rw [if_neg h1] at H
    refine n_cmpT (n_q md_196 rfl) (decide_eq_true (Int32.not_lt.mp h1)) ?_
    obtain ⟨w, hw, H⟩ := g_mapp H
    subst H
    exact P196_30 hw hd (fun S1 e1 => K1 S1 (by rw [e1])) (fun q e1 => Kr q (by rw [e1]))
noncomputable def f196_15L (s : g_S) (x1 : Int32) (x2 : Int32) : Option ((Int32 × g_S) ⊕ (g_S)) := g_run (fun S : Int32 × g_S => f196_15 S.2 x1 S.1) (x2, s)
theorem f196_15L_eq (s : g_S) (x1 : Int32) (x2 : Int32) : f196_15L s x1 x2 = g_st (f196_15 s x1 x2) (fun S => f196_15L S.2 x1 S.1) := by
  unfold f196_15L
  exact g_run_eq _ _
theorem P196_15L {d ex : Nat} {rr : m_R} {s : g_S} {x1 : Int32} {x2 : Int32}   {z : ((Int32 × g_S) ⊕ (g_S))} (H : f196_15L s x1 x2 = some z) (hd : 81 ≤ d) (K0 : ∀ S : Int32 × g_S, z = .inl S → ∀ u2 : Option Value, n_R X (d + 1) 196 2 [some (.ref 199), some (.int S.1), u2] [] (g_M S.2 ex) rr) (Kr : ∀ q, z = .inr (q) → g_rSV q ex = rr) : n_R X (d + 1) 196 15 [some (.ref 199), some (.int x1), some (.int x2)] [] (g_M s ex) rr := by
  unfold f196_15L at H
  have KO0 := K0
  have KOr := Kr
  refine g_rs (Q := fun S => n_R X (d + 1) 196 15 [some (.ref 199), some (.int x1), some (.int S.1)] [] (g_M S.2 ex) rr) H ?_
  intro S w hb K0 KK
  refine P196_15 hb hd ?_ ?_ ?_
  · exact fun S1 e1 => K0 S1 e1
  · exact fun S1 e1 => KO0 S1 (KK _ e1).symm
  · exact fun q e1 => KOr q (KK _ e1).symm
noncomputable def f196_2 (s : g_S) (x1 : Int32) : Option ((Int32 × g_S) ⊕ (g_S)) := ((f195 s).bind fun v1 => if x1 < v1 then ((f193 s x1).bind fun s4 => (f182 s4 (s4 199 13)).bind fun s6 => f196_15L s6 x1 0) else (some (.inr (s))))
theorem P196_2 {d ex : Nat} {rr : m_R} {s : g_S} {x1 : Int32} {u2 : Option Value}   {z : ((Int32 × g_S) ⊕ (g_S))} (H : f196_2 s x1 = some z) (hd : 81 ≤ d) (K0 : ∀ S : Int32 × g_S, z = .inl S → ∀ u2 : Option Value, n_R X (d + 1) 196 2 [some (.ref 199), some (.int S.1), u2] [] (g_M S.2 ex) rr) (Kr : ∀ q, z = .inr (q) → g_rSV q ex = rr) : n_R X (d + 1) 196 2 [some (.ref 199), some (.int x1), u2] [] (g_M s ex) rr := by
  unfold f196_2 at H
  refine g_go 2 md_196 (i1 := 4) rfl ?_
  obtain ⟨v1, hv1, H⟩ := g_bind H
  refine n_callv (n_q md_196 rfl) (As := [.ref 199]) (rest := [.int x1]) rfl rfl (Nat.le_of_ble_eq_true rfl) rfl (g_recv (b := 0) rfl t_199 rfl) (C195 (by omega) hv1) ?_
  by_cases h2 : x1 < v1
  · rw [if_pos h2] at H
    refine n_cmpF (n_q md_196 rfl) (fun e1 => absurd (of_decide_eq_true e1) (Int32.not_le.mpr h2)) ?_
    refine g_go 2 md_196 (i1 := 8) rfl ?_
    obtain ⟨s4, hs4, H⟩ := g_bind H
    refine n_call (n_q md_196 rfl) (As := [.ref 199, .int x1]) (rest := []) rfl rfl (Nat.le_of_ble_eq_true rfl) rfl (g_recv (b := 0) rfl t_199 rfl) (C193 (by omega) hs4) ?_
    refine g_go 2 md_196 (i1 := 11) rfl ?_
    refine g_getf (n_q md_196 rfl) t_199 rfl ?_
    obtain ⟨s6, hs6, H⟩ := g_bind H
    refine n_call (n_q md_196 rfl) (As := [.ref 199, .int (s4 199 13)]) (rest := []) rfl rfl (Nat.le_of_ble_eq_true rfl) rfl (g_recv (b := 0) rfl t_199 rfl) (C182 (by omega) hs6) ?_
    refine g_go 2 md_196 (i1 := 15) (ls1 := [some (.ref 199), some (.int x1), some (.int 0)]) rfl ?_
    exact P196_15L H hd K0 Kr
  · rw [if_neg h2] at H
    refine n_cmpT (n_q md_196 rfl) (decide_eq_true (Int32.not_lt.mp h2)) ?_
    cases H
    rw [← Kr _ rfl]
    exact n_end (n_q md_196 rfl) (fun _ => rfl)
noncomputable def f196_2L (s : g_S) (x1 : Int32) : Option (g_S) := g_run (fun S : Int32 × g_S => f196_2 S.2 S.1) (x1, s)
theorem f196_2L_eq (s : g_S) (x1 : Int32) : f196_2L s x1 = g_st (f196_2 s x1) (fun S => f196_2L S.2 S.1) := by
  unfold f196_2L
  exact g_run_eq _ _
theorem P196_2L {d ex : Nat} {s : g_S} {x1 : Int32} {u2 : Option Value}   {z : (g_S)} (H : f196_2L s x1 = some z) (hd : 81 ≤ d)  : n_R X (d + 1) 196 2 [some (.ref 199), some (.int x1), u2] [] (g_M s ex) (g_rSV z ex) := by
  unfold f196_2L at H
  refine g_rs (Q := fun S => ∀ u2 : Option Value, n_R X (d + 1) 196 2 [some (.ref 199), some (.int S.1), u2] [] (g_M S.2 ex) (g_rSV z ex)) H ?_ u2
  intro S w hb K0 KK u2
  refine P196_2 hb hd ?_ ?_
  · exact fun S1 e1 => K0 S1 e1
  · exact fun q e1 => by rw [KK q e1]
noncomputable def f196 (s : g_S) : Option (g_S) := (f196_2L s 0)
theorem C196 {d ex : Nat} {s : g_S}  {z : g_S} (hd : 81 < d) (H : f196 s = some z) : n_C X d 196 [.ref 199] (g_M s ex) (g_rSV z ex) := by
  obtain ⟨d, rfl⟩ : ∃ d1, d = d1 + 1 := ⟨d - 1, by omega⟩
  replace hd := Nat.le_of_lt_succ hd
  refine ⟨Nat.le_of_ble_eq_true rfl, ?_⟩
  rw [md_196]
  show n_R X (d + 1) 196 0 [some (.ref 199), none, none] [] (g_M s ex) _
  unfold f196 at H
  refine g_go 2 md_196 (i1 := 2) (ls1 := [some (.ref 199), some (.int 0), none]) rfl ?_
  exact P196_2L H hd

theorem md_197 : m_md 197 = m_X8_inCase := rfl
noncomputable def f197_26 (s : g_S) (p1 : Int32) (p2 : Int32) (y1 : Int32) : Option (Int32 × g_S) := (g_bd (f134 s y1 2) fun v1 s2 => if v1 = 0 then ((f196 s2).bind fun s5 => if m_in p1 256 = true then if m_in p2 13 = true then some ((s5 (283 + p1.toNatClampNeg) p2.toNatClampNeg, s5)) else none else none) else (some ((0, s2))))
theorem P197_26 {d ex : Nat} {s : g_S} {p1 : Int32} {p2 : Int32} {y1 : Int32}   {z : (Int32 × g_S)} (H : f197_26 s p1 p2 y1 = some z) (hd : 82 ≤ d)  : n_R X (d + 1) 197 26 [some (.ref 199), some (.int p1), some (.int p2)] [.int y1, .ref 199] (g_M s ex) (g_rSI z ex) := by
  unfold f197_26 at H
  refine g_go 1 md_197 (i1 := 27) rfl ?_
  obtain ⟨v1, s2, hv1, H⟩ := g_bdp H
  refine n_callv (n_q md_197 rfl) (As := [.ref 199, .int y1, .int 2]) (rest := []) rfl rfl (Nat.le_of_ble_eq_true rfl) rfl (g_recv (b := 0) rfl t_199 rfl) (C134 (by omega) hv1) ?_
  by_cases h3 : v1 = 0
  · rw [if_pos h3] at H
    refine n_ifT (n_q md_197 rfl) (decide_eq_true h3) ?_
    refine g_go 1 md_197 (i1 := 32) rfl ?_
    obtain ⟨s5, hs5, H⟩ := g_bind H
    refine n_call (n_q md_197 rfl) (As := [.ref 199]) (rest := []) rfl rfl (Nat.le_of_ble_eq_true rfl) rfl (g_recv (b := 0) rfl t_199 rfl) (C196 (by omega) hs5) ?_
    refine g_go 1 md_197 (i1 := 34) rfl ?_
    refine g_getr 282 (n_q md_197 rfl) t_199 rfl ?_
    refine g_go 1 md_197 (i1 := 36) rfl ?_
    obtain ⟨h6, H⟩ := g_gd H
    refine g_aald (n_q md_197 rfl) ta_282 (by decide) h6 (g_range (g_inlt h6)) ?_
    refine g_go 1 md_197 (i1 := 38) rfl ?_
    obtain ⟨h7, H⟩ := g_gd H
    refine g_iald (n_q md_197 rfl) (te_282 (g_inlt h6)) h7 ?_
    cases H
    exact n_iret (n_q md_197 rfl) (Or.inl rfl)
  · rw [if_neg h3] at H
    refine n_ifF (n_q md_197 rfl) (fun e1 => h3 (of_decide_eq_true e1)) ?_
    refine g_go 1 md_197 (i1 := 30) rfl ?_
    cases H
    exact n_iret (n_q md_197 rfl) (Or.inl rfl)
noncomputable def f197_11 (s : g_S) (p1 : Int32) (p2 : Int32) (y1 : Int32) : Option (Int32 × g_S) := (g_bd (f134 s y1 1) fun v1 s2 => if v1 = 0 then ((f195 s2).bind fun v4 => (f135 s2 p1 0 (v4 - 1)).bind fun v5 => if v5 = 0 then (f197_26 s2 p1 p2 1) else (f197_26 s2 p1 p2 0)) else (some ((0, s2))))
theorem P197_11 {d ex : Nat} {s : g_S} {p1 : Int32} {p2 : Int32} {y1 : Int32}   {z : (Int32 × g_S)} (H : f197_11 s p1 p2 y1 = some z) (hd : 82 ≤ d)  : n_R X (d + 1) 197 11 [some (.ref 199), some (.int p1), some (.int p2)] [.int y1, .ref 199] (g_M s ex) (g_rSI z ex) := by
  unfold f197_11 at H
  refine g_go 1 md_197 (i1 := 12) rfl ?_
  obtain ⟨v1, s2, hv1, H⟩ := g_bdp H
  refine n_callv (n_q md_197 rfl) (As := [.ref 199, .int y1, .int 1]) (rest := []) rfl rfl (Nat.le_of_ble_eq_true rfl) rfl (g_recv (b := 0) rfl t_199 rfl) (C134 (by omega) hv1) ?_
  by_cases h3 : v1 = 0
  · rw [if_pos h3] at H
    refine n_ifF (n_q md_197 rfl) (fun e1 => of_decide_eq_true e1 h3) ?_
    refine g_go 4 md_197 (i1 := 18) rfl ?_
    obtain ⟨v4, hv4, H⟩ := g_bind H
    refine n_callv (n_q md_197 rfl) (As := [.ref 199]) (rest := [.int 0, .int p1, .ref 199]) rfl rfl (Nat.le_of_ble_eq_true rfl) rfl (g_recv (b := 0) rfl t_199 rfl) (C195 (by omega) hv4) ?_
    refine g_go 2 md_197 (i1 := 21) rfl ?_
    obtain ⟨v5, hv5, H⟩ := g_bind H
    refine n_callv (n_q md_197 rfl) (As := [.int p1, .int 0, .int (v4 - 1)]) (rest := [.ref 199]) rfl rfl (Nat.le_of_ble_eq_true rfl) rfl rfl (C135 (by omega) hv5) ?_
    by_cases h6 : v5 = 0
    · rw [if_pos h6] at H
      refine n_ifF (n_q md_197 rfl) (fun e1 => of_decide_eq_true e1 h6) ?_
      refine g_go 2 md_197 (i1 := 26) rfl ?_
      exact P197_26 H hd
    · rw [if_neg h6] at H
      refine n_ifT (n_q md_197 rfl) (decide_eq_true h6) ?_
      refine g_go 1 md_197 (i1 := 26) rfl ?_
      exact P197_26 H hd
  · rw [if_neg h3] at H
    refine n_ifT (n_q md_197 rfl) (decide_eq_true h3) ?_
    refine g_go 1 md_197 (i1 := 30) rfl ?_
    cases H
    exact n_iret (n_q md_197 rfl) (Or.inl rfl)
noncomputable def f197 (s : g_S) (p1 : Int32) (p2 : Int32) : Option (Int32 × g_S) := (g_let (g_w s 199 0 0) fun s1 => (f173 s1 p2).bind fun v2 => if v2 = 0 then (f197_11 s1 p1 p2 1) else (f197_11 s1 p1 p2 0))
theorem C197 {d ex : Nat} {s : g_S} {p1 : Int32} {p2 : Int32}  {z : Int32 × g_S} (hd : 82 < d) (H : f197 s p1 p2 = some z) : n_C X d 197 [.ref 199, .int p1, .int p2] (g_M s ex) (g_rSI z ex) := by
  obtain ⟨d, rfl⟩ : ∃ d1, d = d1 + 1 := ⟨d - 1, by omega⟩
  replace hd := Nat.le_of_lt_succ hd
  refine ⟨Nat.le_of_ble_eq_true rfl, ?_⟩
  rw [md_197]
  show n_R X (d + 1) 197 0 [some (.ref 199), some (.int p1), some (.int p2)] [] (g_M s ex) _
  unfold f197 at H
  refine g_go 2 md_197 (i1 := 2) rfl ?_
  obtain ⟨s1, es1, H⟩ := g_letp H
  refine g_putf (n_q md_197 rfl) t_199 rfl rfl es1 ?_
  refine g_go 3 md_197 (i1 := 6) rfl ?_
  obtain ⟨v2, hv2, H⟩ := g_bind H
  refine n_callv (n_q md_197 rfl) (As := [.ref 199, .int p2]) (rest := [.ref 199]) rfl rfl (Nat.le_of_ble_eq_true rfl) rfl (g_recv (b := 0) rfl t_199 rfl) (C173 (by omega) hv2) ?_
  by_cases h3 : v2 = 0
  · rw [if_pos h3] at H
    refine n_ifF (n_q md_197 rfl) (fun e1 => of_decide_eq_true e1 h3) ?_
    refine g_go 2 md_197 (i1 := 11) rfl ?_
    exact P197_11 H hd
  · rw [if_neg h3] at H
    refine n_ifT (n_q md_197 rfl) (decide_eq_true h3) ?_
    refine g_go 1 md_197 (i1 := 11) rfl ?_
    exact P197_11 H hd

theorem md_198 : m_md 198 = m_X8_casesOf := rfl
noncomputable def f198_6 (s : g_S) (p1 : Int32) (x2 : Int32) (x3 : Int32) : Option ((Int32 × Int32) ⊕ (Int32 × g_S)) := ((f195 s).bind fun v1 => if x3 < v1 then (if m_in x3 256 = true then if m_in p1 13 = true then if 0 < (s (283 + x3.toNatClampNeg) p1.toNatClampNeg) then (some (.inl (x2 + 1, x3 + 1))) else (some (.inl (x2 + 0, x3 + 1))) else none else none) else (some (.inr ((x2, s)))))
theorem P198_6 {d ex : Nat} {rr : m_R} {s : g_S} {p1 : Int32} {x2 : Int32} {x3 : Int32}   {z : ((Int32 × Int32) ⊕ (Int32 × g_S))} (H : f198_6 s p1 x2 x3 = some z) (hd : 82 ≤ d) (K0 : ∀ S : Int32 × Int32, z = .inl S → n_R X (d + 1) 198 6 [some (.ref 199), some (.int p1), some (.int S.1), some (.int S.2)] [] (g_M s ex) rr) (Kr : ∀ q, z = .inr (q) → g_rSI q ex = rr) : n_R X (d + 1) 198 6 [some (.ref 199), some (.int p1), some (.int x2), some (.int x3)] [] (g_M s ex) rr := by
  unfold f198_6 at H
  refine g_go 2 md_198 (i1 := 8) rfl ?_
  obtain ⟨v1, hv1, H⟩ := g_bind H
  refine n_callv (n_q md_198 rfl) (As := [.ref 199]) (rest := [.int x3]) rfl rfl (Nat.le_of_ble_eq_true rfl) rfl (g_recv (b := 0) rfl t_199 rfl) (C195 (by omega) hv1) ?_
  by_cases h2 : x3 < v1
  · rw [if_pos h2] at H
    refine n_cmpF (n_q md_198 rfl) (fun e1 => absurd (of_decide_eq_true e1) (Int32.not_le.mpr h2)) ?_
    refine g_go 2 md_198 (i1 := 12) rfl ?_
    refine g_getr 282 (n_q md_198 rfl) t_199 rfl ?_
    refine g_go 1 md_198 (i1 := 14) rfl ?_
    obtain ⟨h3, H⟩ := g_gd H
    refine g_aald (n_q md_198 rfl) ta_282 (by decide) h3 (g_range (g_inlt h3)) ?_
    refine g_go 1 md_198 (i1 := 16) rfl ?_
    obtain ⟨h4, H⟩ := g_gd H
    refine g_iald (n_q md_198 rfl) (te_282 (g_inlt h3)) h4 ?_
    by_cases h5 : 0 < (s (283 + x3.toNatClampNeg) p1.toNatClampNeg)
    · rw [if_pos h5] at H
      refine n_ifF (n_q md_198 rfl) (fun e1 => absurd (of_decide_eq_true e1) (Int32.not_le.mpr h5)) ?_
      refine g_go 6 md_198 (i1 := 6) (ls1 := [some (.ref 199), some (.int p1), some (.int (x2 + 1)), some (.int (x3 + 1))]) rfl ?_
      cases H
      exact K0 (x2 + 1, x3 + 1) rfl
    · rw [if_neg h5] at H
      refine n_ifT (n_q md_198 rfl) (decide_eq_true (Int32.not_lt.mp h5)) ?_
      refine g_go 5 md_198 (i1 := 6) (ls1 := [some (.ref 199), some (.int p1), some (.int (x2 + 0)), some (.int (x3 + 1))]) rfl ?_
      cases H
      exact K0 (x2 + 0, x3 + 1) rfl
  · rw [if_neg h2] at H
    refine n_cmpT (n_q md_198 rfl) (decide_eq_true (Int32.not_lt.mp h2)) ?_
    refine g_go 1 md_198 (i1 := 26) rfl ?_
    cases H
    rw [← Kr _ rfl]
    exact n_iret (n_q md_198 rfl) (Or.inl rfl)
noncomputable def f198_6L (s : g_S) (p1 : Int32) (x2 : Int32) (x3 : Int32) : Option (Int32 × g_S) := g_run (fun S : Int32 × Int32 => f198_6 s p1 S.1 S.2) (x2, x3)
theorem f198_6L_eq (s : g_S) (p1 : Int32) (x2 : Int32) (x3 : Int32) : f198_6L s p1 x2 x3 = g_st (f198_6 s p1 x2 x3) (fun S => f198_6L s p1 S.1 S.2) := by
  unfold f198_6L
  exact g_run_eq _ _
theorem P198_6L {d ex : Nat} {s : g_S} {p1 : Int32} {x2 : Int32} {x3 : Int32}   {z : (Int32 × g_S)} (H : f198_6L s p1 x2 x3 = some z) (hd : 82 ≤ d)  : n_R X (d + 1) 198 6 [some (.ref 199), some (.int p1), some (.int x2), some (.int x3)] [] (g_M s ex) (g_rSI z ex) := by
  unfold f198_6L at H
  refine g_rs (Q := fun S => n_R X (d + 1) 198 6 [some (.ref 199), some (.int p1), some (.int S.1), some (.int S.2)] [] (g_M s ex) (g_rSI z ex)) H ?_
  intro S w hb K0 KK
  refine P198_6 hb hd ?_ ?_
  · exact fun S1 e1 => K0 S1 e1
  · exact fun q e1 => by rw [KK q e1]
noncomputable def f198 (s : g_S) (p1 : Int32) : Option (Int32 × g_S) := ((f196 s).bind fun s2 => f198_6L s2 p1 0 0)
theorem C198 {d ex : Nat} {s : g_S} {p1 : Int32}  {z : Int32 × g_S} (hd : 82 < d) (H : f198 s p1 = some z) : n_C X d 198 [.ref 199, .int p1] (g_M s ex) (g_rSI z ex) := by
  obtain ⟨d, rfl⟩ : ∃ d1, d = d1 + 1 := ⟨d - 1, by omega⟩
  replace hd := Nat.le_of_lt_succ hd
  refine ⟨Nat.le_of_ble_eq_true rfl, ?_⟩
  rw [md_198]
  show n_R X (d + 1) 198 0 [some (.ref 199), some (.int p1), none, none] [] (g_M s ex) _
  unfold f198 at H
  refine g_go 1 md_198 (i1 := 1) rfl ?_
  obtain ⟨s2, hs2, H⟩ := g_bind H
  refine n_call (n_q md_198 rfl) (As := [.ref 199]) (rest := []) rfl rfl (Nat.le_of_ble_eq_true rfl) rfl (g_recv (b := 0) rfl t_199 rfl) (C196 (by omega) hs2) ?_
  refine g_go 4 md_198 (i1 := 6) (ls1 := [some (.ref 199), some (.int p1), some (.int 0), some (.int 0)]) rfl ?_
  exact P198_6L H hd

theorem md_199 : m_md 199 = m_X8_sure := rfl
noncomputable def f199_11 (s : g_S) (p1 : Int32) (y1 : Int32) : Option (Int32 × g_S) := (g_bd (f134 s y1 1) fun v1 s2 => if v1 = 0 then (g_bd (f198 s2 p1) fun v4 s5 => (f195 s5).bind fun v6 => if v4 = v6 then (some ((2, s5))) else (if 0 < v4 then (some ((1, s5))) else (some ((0, s5))))) else (some ((0, s2))))
theorem P199_11 {d ex : Nat} {s : g_S} {p1 : Int32} {y1 : Int32} {u2 : Option Value}   {z : (Int32 × g_S)} (H : f199_11 s p1 y1 = some z) (hd : 83 ≤ d)  : n_R X (d + 1) 199 11 [some (.ref 199), some (.int p1), u2] [.int y1, .ref 199] (g_M s ex) (g_rSI z ex) := by
  unfold f199_11 at H
  refine g_go 1 md_199 (i1 := 12) rfl ?_
  obtain ⟨v1, s2, hv1, H⟩ := g_bdp H
  refine n_callv (n_q md_199 rfl) (As := [.ref 199, .int y1, .int 1]) (rest := []) rfl rfl (Nat.le_of_ble_eq_true rfl) rfl (g_recv (b := 0) rfl t_199 rfl) (C134 (by omega) hv1) ?_
  by_cases h3 : v1 = 0
  · rw [if_pos h3] at H
    refine n_ifT (n_q md_199 rfl) (decide_eq_true h3) ?_
    refine g_go 2 md_199 (i1 := 18) rfl ?_
    obtain ⟨v4, s5, hv4, H⟩ := g_bdp H
    refine n_callv (n_q md_199 rfl) (As := [.ref 199, .int p1]) (rest := []) rfl rfl (Nat.le_of_ble_eq_true rfl) rfl (g_recv (b := 0) rfl t_199 rfl) (C198 (by omega) hv4) ?_
    refine g_go 3 md_199 (i1 := 22) (ls1 := [some (.ref 199), some (.int p1), some (.int v4)]) rfl ?_
    obtain ⟨v6, hv6, H⟩ := g_bind H
    refine n_callv (n_q md_199 rfl) (As := [.ref 199]) (rest := [.int v4]) rfl rfl (Nat.le_of_ble_eq_true rfl) rfl (g_recv (b := 0) rfl t_199 rfl) (C195 (by omega) hv6) ?_
    by_cases h7 : v4 = v6
    · rw [if_pos h7] at H
      refine n_cmpF (n_q md_199 rfl) (fun e1 => of_decide_eq_true e1 h7) ?_
      refine g_go 2 md_199 (i1 := 31) rfl ?_
      cases H
      exact n_iret (n_q md_199 rfl) (Or.inl rfl)
    · rw [if_neg h7] at H
      refine n_cmpT (n_q md_199 rfl) (decide_eq_true h7) ?_
      refine g_go 1 md_199 (i1 := 27) rfl ?_
      by_cases h8 : 0 < v4
      · rw [if_pos h8] at H
        refine n_ifF (n_q md_199 rfl) (fun e1 => absurd (of_decide_eq_true e1) (Int32.not_le.mpr h8)) ?_
        refine g_go 2 md_199 (i1 := 31) rfl ?_
        cases H
        exact n_iret (n_q md_199 rfl) (Or.inl rfl)
      · rw [if_neg h8] at H
        refine n_ifT (n_q md_199 rfl) (decide_eq_true (Int32.not_lt.mp h8)) ?_
        refine g_go 1 md_199 (i1 := 31) rfl ?_
        cases H
        exact n_iret (n_q md_199 rfl) (Or.inl rfl)
  · rw [if_neg h3] at H
    refine n_ifF (n_q md_199 rfl) (fun e1 => h3 (of_decide_eq_true e1)) ?_
    refine g_go 1 md_199 (i1 := 15) rfl ?_
    cases H
    exact n_iret (n_q md_199 rfl) (Or.inl rfl)
noncomputable def f199 (s : g_S) (p1 : Int32) : Option (Int32 × g_S) := (g_let (g_w s 199 0 0) fun s1 => (f173 s1 p1).bind fun v2 => if v2 = 0 then (f199_11 s1 p1 1) else (f199_11 s1 p1 0))
theorem C199 {d ex : Nat} {s : g_S} {p1 : Int32}  {z : Int32 × g_S} (hd : 83 < d) (H : f199 s p1 = some z) : n_C X d 199 [.ref 199, .int p1] (g_M s ex) (g_rSI z ex) := by
  obtain ⟨d, rfl⟩ : ∃ d1, d = d1 + 1 := ⟨d - 1, by omega⟩
  replace hd := Nat.le_of_lt_succ hd
  refine ⟨Nat.le_of_ble_eq_true rfl, ?_⟩
  rw [md_199]
  show n_R X (d + 1) 199 0 [some (.ref 199), some (.int p1), none] [] (g_M s ex) _
  unfold f199 at H
  refine g_go 2 md_199 (i1 := 2) rfl ?_
  obtain ⟨s1, es1, H⟩ := g_letp H
  refine g_putf (n_q md_199 rfl) t_199 rfl rfl es1 ?_
  refine g_go 3 md_199 (i1 := 6) rfl ?_
  obtain ⟨v2, hv2, H⟩ := g_bind H
  refine n_callv (n_q md_199 rfl) (As := [.ref 199, .int p1]) (rest := [.ref 199]) rfl rfl (Nat.le_of_ble_eq_true rfl) rfl (g_recv (b := 0) rfl t_199 rfl) (C173 (by omega) hv2) ?_
  by_cases h3 : v2 = 0
  · rw [if_pos h3] at H
    refine n_ifF (n_q md_199 rfl) (fun e1 => of_decide_eq_true e1 h3) ?_
    refine g_go 2 md_199 (i1 := 11) rfl ?_
    exact P199_11 H hd
  · rw [if_neg h3] at H
    refine n_ifT (n_q md_199 rfl) (decide_eq_true h3) ?_
    refine g_go 1 md_199 (i1 := 11) rfl ?_
    exact P199_11 H hd

theorem md_200 : m_md 200 = m_X8_cases := rfl
noncomputable def f200_11 (s : g_S) (p1 : Int32) (y1 : Int32) : Option (Int32 × g_S) := (g_bd (f134 s y1 1) fun v1 s2 => if v1 = 0 then (g_bd (f198 s2 p1) fun v4 s5 => some ((v4, s5))) else (some ((0, s2))))
theorem P200_11 {d ex : Nat} {s : g_S} {p1 : Int32} {y1 : Int32}   {z : (Int32 × g_S)} (H : f200_11 s p1 y1 = some z) (hd : 83 ≤ d)  : n_R X (d + 1) 200 11 [some (.ref 199), some (.int p1)] [.int y1, .ref 199] (g_M s ex) (g_rSI z ex) := by
  unfold f200_11 at H
  refine g_go 1 md_200 (i1 := 12) rfl ?_
  obtain ⟨v1, s2, hv1, H⟩ := g_bdp H
  refine n_callv (n_q md_200 rfl) (As := [.ref 199, .int y1, .int 1]) (rest := []) rfl rfl (Nat.le_of_ble_eq_true rfl) rfl (g_recv (b := 0) rfl t_199 rfl) (C134 (by omega) hv1) ?_
  by_cases h3 : v1 = 0
  · rw [if_pos h3] at H
    refine n_ifT (n_q md_200 rfl) (decide_eq_true h3) ?_
    refine g_go 2 md_200 (i1 := 18) rfl ?_
    obtain ⟨v4, s5, hv4, H⟩ := g_bdp H
    refine n_callv (n_q md_200 rfl) (As := [.ref 199, .int p1]) (rest := []) rfl rfl (Nat.le_of_ble_eq_true rfl) rfl (g_recv (b := 0) rfl t_199 rfl) (C198 (by omega) hv4) ?_
    cases H
    exact n_iret (n_q md_200 rfl) (Or.inl rfl)
  · rw [if_neg h3] at H
    refine n_ifF (n_q md_200 rfl) (fun e1 => h3 (of_decide_eq_true e1)) ?_
    refine g_go 1 md_200 (i1 := 15) rfl ?_
    cases H
    exact n_iret (n_q md_200 rfl) (Or.inl rfl)
noncomputable def f200 (s : g_S) (p1 : Int32) : Option (Int32 × g_S) := (g_let (g_w s 199 0 0) fun s1 => (f173 s1 p1).bind fun v2 => if v2 = 0 then (f200_11 s1 p1 1) else (f200_11 s1 p1 0))
theorem C200 {d ex : Nat} {s : g_S} {p1 : Int32}  {z : Int32 × g_S} (hd : 83 < d) (H : f200 s p1 = some z) : n_C X d 200 [.ref 199, .int p1] (g_M s ex) (g_rSI z ex) := by
  obtain ⟨d, rfl⟩ : ∃ d1, d = d1 + 1 := ⟨d - 1, by omega⟩
  replace hd := Nat.le_of_lt_succ hd
  refine ⟨Nat.le_of_ble_eq_true rfl, ?_⟩
  rw [md_200]
  show n_R X (d + 1) 200 0 [some (.ref 199), some (.int p1)] [] (g_M s ex) _
  unfold f200 at H
  refine g_go 2 md_200 (i1 := 2) rfl ?_
  obtain ⟨s1, es1, H⟩ := g_letp H
  refine g_putf (n_q md_200 rfl) t_199 rfl rfl es1 ?_
  refine g_go 3 md_200 (i1 := 6) rfl ?_
  obtain ⟨v2, hv2, H⟩ := g_bind H
  refine n_callv (n_q md_200 rfl) (As := [.ref 199, .int p1]) (rest := [.ref 199]) rfl rfl (Nat.le_of_ble_eq_true rfl) rfl (g_recv (b := 0) rfl t_199 rfl) (C173 (by omega) hv2) ?_
  by_cases h3 : v2 = 0
  · rw [if_pos h3] at H
    refine n_ifF (n_q md_200 rfl) (fun e1 => of_decide_eq_true e1 h3) ?_
    refine g_go 2 md_200 (i1 := 11) rfl ?_
    exact P200_11 H hd
  · rw [if_neg h3] at H
    refine n_ifT (n_q md_200 rfl) (decide_eq_true h3) ?_
    refine g_go 1 md_200 (i1 := 11) rfl ?_
    exact P200_11 H hd

theorem md_201 : m_md 201 = m_X8_hangs := rfl
noncomputable def f201_82 (s : g_S) (p1 : Int32) (x2 : Int32) (x3 : Int32) (x4 : Int32) : Option ((Int32) ⊕ (Int32 × g_S)) := ((f195 s).bind fun v1 => if x3 = v1 then (some (.inr ((x2, s)))) else ((f195 s).bind fun v3 => if x4 = v3 then (some (.inr ((x2, s)))) else (some (.inl (x2 + 1)))))
theorem P201_82 {d ex : Nat} {rr : m_R} {s : g_S} {p1 : Int32} {x2 : Int32} {x3 : Int32} {x4 : Int32} {u5 u6 : Option Value}   {z : ((Int32) ⊕ (Int32 × g_S))} (H : f201_82 s p1 x2 x3 x4 = some z) (hd : 82 ≤ d) (K0 : ∀ S : Int32, z = .inl S → ∀ u3 u4 u5 u6 : Option Value, n_R X (d + 1) 201 20 [some (.ref 199), some (.int p1), some (.int S), u3, u4, u5, u6] [] (g_M s ex) rr) (Kr : ∀ q, z = .inr (q) → g_rSI q ex = rr) : n_R X (d + 1) 201 82 [some (.ref 199), some (.int p1), some (.int x2), some (.int x3), some (.int x4), u5, u6] [] (g_M s ex) rr := by
  unfold f201_82 at H
  refine g_go 2 md_201 (i1 := 84) rfl ?_
  obtain ⟨v1, hv1, H⟩ := g_bind H
  refine n_callv (n_q md_201 rfl) (As := [.ref 199]) (rest := [.int x3]) rfl rfl (Nat.le_of_ble_eq_true rfl) rfl (g_recv (b := 0) rfl t_199 rfl) (C195 (by omega) hv1) ?_
  by_cases h2 : x3 = v1
  · rw [if_pos h2] at H
    refine n_cmpT (n_q md_201 rfl) (decide_eq_true h2) ?_
    refine g_go 1 md_201 (i1 := 91) rfl ?_
    cases H
    rw [← Kr _ rfl]
    exact n_iret (n_q md_201 rfl) (Or.inl rfl)
  · rw [if_neg h2] at H
    refine n_cmpF (n_q md_201 rfl) (fun e1 => h2 (of_decide_eq_true e1)) ?_
    refine g_go 2 md_201 (i1 := 88) rfl ?_
    obtain ⟨v3, hv3, H⟩ := g_bind H
    refine n_callv (n_q md_201 rfl) (As := [.ref 199]) (rest := [.int x4]) rfl rfl (Nat.le_of_ble_eq_true rfl) rfl (g_recv (b := 0) rfl t_199 rfl) (C195 (by omega) hv3) ?_
    by_cases h4 : x4 = v3
    · rw [if_pos h4] at H
      refine n_cmpF (n_q md_201 rfl) (fun e1 => of_decide_eq_true e1 h4) ?_
      refine g_go 1 md_201 (i1 := 91) rfl ?_
      cases H
      rw [← Kr _ rfl]
      exact n_iret (n_q md_201 rfl) (Or.inl rfl)
    · rw [if_neg h4] at H
      refine n_cmpT (n_q md_201 rfl) (decide_eq_true h4) ?_
      refine g_go 2 md_201 (i1 := 20) (ls1 := [some (.ref 199), some (.int p1), some (.int (x2 + 1)), some (.int x3), some (.int x4), u5, u6]) rfl ?_
      cases H
      exact K0 (x2 + 1) rfl _ _ _ _
noncomputable def f201_74 (s : g_S) (p1 : Int32) (x2 : Int32) (x3 : Int32) (x5 : Int32) (y0 : Int32) (y1 : Int32) (y2 : Int32) : Option ((Int32 × Int32 × Int32) ⊕ ((Int32) ⊕ (Int32 × g_S))) := (if y1 = y2 then (some (.inl (x3, (y0 + 1, x5 + 1)))) else (some (.inl (x3, (y0 + 0, x5 + 1)))))
theorem P201_74 {d ex : Nat} {rr : m_R} {s : g_S} {p1 : Int32} {x2 : Int32} {x3 : Int32} {x5 : Int32} {y0 : Int32} {y1 : Int32} {y2 : Int32} {u4 u6 : Option Value}   {z : ((Int32 × Int32 × Int32) ⊕ ((Int32) ⊕ (Int32 × g_S)))} (H : f201_74 s p1 x2 x3 x5 y0 y1 y2 = some z) (hd : 82 ≤ d) (K0 : ∀ S : Int32 × Int32 × Int32, z = .inl S → ∀ u6 : Option Value, n_R X (d + 1) 201 30 [some (.ref 199), some (.int p1), some (.int x2), some (.int S.1), some (.int S.2.1), some (.int S.2.2), u6] [] (g_M s ex) rr) (K1 : ∀ S : Int32, z = .inr (.inl S) → ∀ u3 u4 u5 u6 : Option Value, n_R X (d + 1) 201 20 [some (.ref 199), some (.int p1), some (.int S), u3, u4, u5, u6] [] (g_M s ex) rr) (Kr : ∀ q, z = .inr (.inr (q)) → g_rSI q ex = rr) : n_R X (d + 1) 201 74 [some (.ref 199), some (.int p1), some (.int x2), some (.int x3), u4, some (.int x5), u6] [.int y2, .int y1, .int y0] (g_M s ex) rr := by
  unfold f201_74 at H
  by_cases h1 : y1 = y2
  · rw [if_pos h1] at H
    refine n_cmpF (n_q md_201 rfl) (fun e1 => of_decide_eq_true e1 h1) ?_
    refine g_go 6 md_201 (i1 := 30) (ls1 := [some (.ref 199), some (.int p1), some (.int x2), some (.int x3), some (.int (y0 + 1)), some (.int (x5 + 1)), u6]) rfl ?_
    cases H
    exact K0 (x3, (y0 + 1, x5 + 1)) rfl _
  · rw [if_neg h1] at H
    refine n_cmpT (n_q md_201 rfl) (decide_eq_true h1) ?_
    refine g_go 5 md_201 (i1 := 30) (ls1 := [some (.ref 199), some (.int p1), some (.int x2), some (.int x3), some (.int (y0 + 0)), some (.int (x5 + 1)), u6]) rfl ?_
    cases H
    exact K0 (x3, (y0 + 0, x5 + 1)) rfl _
noncomputable def f201_61 (s : g_S) (p1 : Int32) (x2 : Int32) (x4 : Int32) (x5 : Int32) (x6 : Int32) (y0 : Int32) (y1 : Int32) : Option ((Int32 × Int32 × Int32) ⊕ ((Int32) ⊕ (Int32 × g_S))) := (if ((x5 >>> (x2 &&& 31)) &&& 1) = 0 then (f201_74 s p1 x2 (y0 + y1) x5 x4 x6 1) else (f201_74 s p1 x2 (y0 + y1) x5 x4 x6 0))
theorem P201_61 {d ex : Nat} {rr : m_R} {s : g_S} {p1 : Int32} {x2 : Int32} {x4 : Int32} {x5 : Int32} {x6 : Int32} {y0 : Int32} {y1 : Int32} {u3 : Option Value}   {z : ((Int32 × Int32 × Int32) ⊕ ((Int32) ⊕ (Int32 × g_S)))} (H : f201_61 s p1 x2 x4 x5 x6 y0 y1 = some z) (hd : 82 ≤ d) (K0 : ∀ S : Int32 × Int32 × Int32, z = .inl S → ∀ u6 : Option Value, n_R X (d + 1) 201 30 [some (.ref 199), some (.int p1), some (.int x2), some (.int S.1), some (.int S.2.1), some (.int S.2.2), u6] [] (g_M s ex) rr) (K1 : ∀ S : Int32, z = .inr (.inl S) → ∀ u3 u4 u5 u6 : Option Value, n_R X (d + 1) 201 20 [some (.ref 199), some (.int p1), some (.int S), u3, u4, u5, u6] [] (g_M s ex) rr) (Kr : ∀ q, z = .inr (.inr (q)) → g_rSI q ex = rr) : n_R X (d + 1) 201 61 [some (.ref 199), some (.int p1), some (.int x2), u3, some (.int x4), some (.int x5), some (.int x6)] [.int y1, .int y0] (g_M s ex) rr := by
  unfold f201_61 at H
  refine g_go 9 md_201 (i1 := 70) (ls1 := [some (.ref 199), some (.int p1), some (.int x2), some (.int (y0 + y1)), some (.int x4), some (.int x5), some (.int x6)]) rfl ?_
  by_cases h1 : ((x5 >>> (x2 &&& 31)) &&& 1) = 0
  · rw [if_pos h1] at H
    refine n_ifF (n_q md_201 rfl) (fun e1 => of_decide_eq_true e1 h1) ?_
    refine g_go 2 md_201 (i1 := 74) rfl ?_
    exact P201_74 H hd K0 K1 Kr
  · rw [if_neg h1] at H
    refine n_ifT (n_q md_201 rfl) (decide_eq_true h1) ?_
    refine g_go 1 md_201 (i1 := 74) rfl ?_
    exact P201_74 H hd K0 K1 Kr
noncomputable def f201_57 (s : g_S) (p1 : Int32) (x2 : Int32) (x4 : Int32) (x5 : Int32) (x6 : Int32) (y0 : Int32) (y1 : Int32) (y2 : Int32) : Option ((Int32 × Int32 × Int32) ⊕ ((Int32) ⊕ (Int32 × g_S))) := (if y1 = y2 then (f201_61 s p1 x2 x4 x5 x6 y0 1) else (f201_61 s p1 x2 x4 x5 x6 y0 0))
theorem P201_57 {d ex : Nat} {rr : m_R} {s : g_S} {p1 : Int32} {x2 : Int32} {x4 : Int32} {x5 : Int32} {x6 : Int32} {y0 : Int32} {y1 : Int32} {y2 : Int32} {u3 : Option Value}   {z : ((Int32 × Int32 × Int32) ⊕ ((Int32) ⊕ (Int32 × g_S)))} (H : f201_57 s p1 x2 x4 x5 x6 y0 y1 y2 = some z) (hd : 82 ≤ d) (K0 : ∀ S : Int32 × Int32 × Int32, z = .inl S → ∀ u6 : Option Value, n_R X (d + 1) 201 30 [some (.ref 199), some (.int p1), some (.int x2), some (.int S.1), some (.int S.2.1), some (.int S.2.2), u6] [] (g_M s ex) rr) (K1 : ∀ S : Int32, z = .inr (.inl S) → ∀ u3 u4 u5 u6 : Option Value, n_R X (d + 1) 201 20 [some (.ref 199), some (.int p1), some (.int S), u3, u4, u5, u6] [] (g_M s ex) rr) (Kr : ∀ q, z = .inr (.inr (q)) → g_rSI q ex = rr) : n_R X (d + 1) 201 57 [some (.ref 199), some (.int p1), some (.int x2), u3, some (.int x4), some (.int x5), some (.int x6)] [.int y2, .int y1, .int y0] (g_M s ex) rr := by
  unfold f201_57 at H
  by_cases h1 : y1 = y2
  · rw [if_pos h1] at H
    refine n_cmpF (n_q md_201 rfl) (fun e1 => of_decide_eq_true e1 h1) ?_
    refine g_go 2 md_201 (i1 := 61) rfl ?_
    exact P201_61 H hd K0 K1 Kr
  · rw [if_neg h1] at H
    refine n_cmpT (n_q md_201 rfl) (decide_eq_true h1) ?_
    refine g_go 1 md_201 (i1 := 61) rfl ?_
    exact P201_61 H hd K0 K1 Kr
noncomputable def f201_44 (s : g_S) (p1 : Int32) (x2 : Int32) (x3 : Int32) (x4 : Int32) (x5 : Int32) (y0 : Int32) : Option ((Int32 × Int32 × Int32) ⊕ ((Int32) ⊕ (Int32 × g_S))) := (if ((x5 >>> (x2 &&& 31)) &&& 1) = 1 then (f201_57 s p1 x2 x4 x5 y0 x3 y0 1) else (f201_57 s p1 x2 x4 x5 y0 x3 y0 0))
theorem P201_44 {d ex : Nat} {rr : m_R} {s : g_S} {p1 : Int32} {x2 : Int32} {x3 : Int32} {x4 : Int32} {x5 : Int32} {y0 : Int32} {u6 : Option Value}   {z : ((Int32 × Int32 × Int32) ⊕ ((Int32) ⊕ (Int32 × g_S)))} (H : f201_44 s p1 x2 x3 x4 x5 y0 = some z) (hd : 82 ≤ d) (K0 : ∀ S : Int32 × Int32 × Int32, z = .inl S → ∀ u6 : Option Value, n_R X (d + 1) 201 30 [some (.ref 199), some (.int p1), some (.int x2), some (.int S.1), some (.int S.2.1), some (.int S.2.2), u6] [] (g_M s ex) rr) (K1 : ∀ S : Int32, z = .inr (.inl S) → ∀ u3 u4 u5 u6 : Option Value, n_R X (d + 1) 201 20 [some (.ref 199), some (.int p1), some (.int S), u3, u4, u5, u6] [] (g_M s ex) rr) (Kr : ∀ q, z = .inr (.inr (q)) → g_rSI q ex = rr) : n_R X (d + 1) 201 44 [some (.ref 199), some (.int p1), some (.int x2), some (.int x3), some (.int x4), some (.int x5), u6] [.int y0] (g_M s ex) rr := by
  unfold f201_44 at H
  refine g_go 9 md_201 (i1 := 53) (ls1 := [some (.ref 199), some (.int p1), some (.int x2), some (.int x3), some (.int x4), some (.int x5), some (.int y0)]) rfl ?_
  by_cases h1 : ((x5 >>> (x2 &&& 31)) &&& 1) = 1
  · rw [if_pos h1] at H
    refine n_cmpF (n_q md_201 rfl) (fun e1 => of_decide_eq_true e1 h1) ?_
    refine g_go 2 md_201 (i1 := 57) rfl ?_
    exact P201_57 H hd K0 K1 Kr
  · rw [if_neg h1] at H
    refine n_cmpT (n_q md_201 rfl) (decide_eq_true h1) ?_
    refine g_go 1 md_201 (i1 := 57) rfl ?_
    exact P201_57 H hd K0 K1 Kr
noncomputable def f201_30 (s : g_S) (p1 : Int32) (x2 : Int32) (x3 : Int32) (x4 : Int32) (x5 : Int32) : Option ((Int32 × Int32 × Int32) ⊕ ((Int32) ⊕ (Int32 × g_S))) := ((f195 s).bind fun v1 => if x5 < v1 then (if m_in x5 256 = true then if m_in p1 13 = true then if 0 < (s (283 + x5.toNatClampNeg) p1.toNatClampNeg) then (f201_44 s p1 x2 x3 x4 x5 1) else (f201_44 s p1 x2 x3 x4 x5 0) else none else none) else (Option.map (fun w => (.inr (w) : ((Int32 × Int32 × Int32) ⊕ ((Int32) ⊕ (Int32 × g_S))))) (f201_82 s p1 x2 x3 x4)))
theorem P201_30 {d ex : Nat} {rr : m_R} {s : g_S} {p1 : Int32} {x2 : Int32} {x3 : Int32} {x4 : Int32} {x5 : Int32} {u6 : Option Value}   {z : ((Int32 × Int32 × Int32) ⊕ ((Int32) ⊕ (Int32 × g_S)))} (H : f201_30 s p1 x2 x3 x4 x5 = some z) (hd : 82 ≤ d) (K0 : ∀ S : Int32 × Int32 × Int32, z = .inl S → ∀ u6 : Option Value, n_R X (d + 1) 201 30 [some (.ref 199), some (.int p1), some (.int x2), some (.int S.1), some (.int S.2.1), some (.int S.2.2), u6] [] (g_M s ex) rr) (K1 : ∀ S : Int32, z = .inr (.inl S) → ∀ u3 u4 u5 u6 : Option Value, n_R X (d + 1) 201 20 [some (.ref 199), some (.int p1), some (.int S), u3, u4, u5, u6] [] (g_M s ex) rr) (Kr : ∀ q, z = .inr (.inr (q)) → g_rSI q ex = rr) : n_R X (d + 1) 201 30 [some (.ref 199), some (.int p1), some (.int x2), some (.int x3), some (.int x4), some (.int x5), u6] [] (g_M s ex) rr := by
  unfold f201_30 at H
  refine g_go 2 md_201 (i1 := 32) rfl ?_
  obtain ⟨v1, hv1, H⟩ := g_bind H
  refine n_callv (n_q md_201 rfl) (As := [.ref 199]) (rest := [.int x5]) rfl rfl (Nat.le_of_ble_eq_true rfl) rfl (g_recv (b := 0) rfl t_199 rfl) (C195 (by omega) hv1) ?_
  by_cases h2 : x5 < v1
  · rw [if_pos h2] at H
    refine n_cmpF (n_q md_201 rfl) (fun e1 => absurd (of_decide_eq_true e1) (Int32.not_le.mpr h2)) ?_
    refine g_go 1 md_201 (i1 := 35) rfl ?_
    refine g_getr 282 (n_q md_201 rfl) t_199 rfl ?_
    refine g_go 1 md_201 (i1 := 37) rfl ?_
    obtain ⟨h3, H⟩ := g_gd H
    refine g_aald (n_q md_201 rfl) ta_282 (by decide) h3 (g_range (g_inlt h3)) ?_
    refine g_go 1 md_201 (i1 := 39) rfl ?_
    obtain ⟨h4, H⟩ := g_gd H
    refine g_iald (n_q md_201 rfl) (te_282 (g_inlt h3)) h4 ?_
    by_cases h5 : 0 < (s (283 + x5.toNatClampNeg) p1.toNatClampNeg)
    · rw [if_pos h5] at H
      refine n_ifF (n_q md_201 rfl) (fun e1 => absurd (of_decide_eq_true e1) (Int32.not_le.mpr h5)) ?_
      refine g_go 2 md_201 (i1 := 44) rfl ?_
      exact P201_44 H hd K0 K1 Kr
    · rw [if_neg h5] at H
      refine n_ifT (n_q md_201 rfl) (decide_eq_true (Int32.not_lt.mp h5)) ?_
      refine g_go 1 md_201 (i1 := 44) rfl ?_
      exact P201_44 H hd K0 K1 Kr
  · rw [if_neg h2] at H
    refine n_cmpT (n_q md_201 rfl) (decide_eq_true (Int32.not_lt.mp h2)) ?_
    obtain ⟨w, hw, H⟩ := g_mapp H
    subst H
    exact P201_82 hw hd (fun S1 e1 => K1 S1 (by rw [e1])) (fun q e1 => Kr q (by rw [e1]))
noncomputable def f201_30L (s : g_S) (p1 : Int32) (x2 : Int32) (x3 : Int32) (x4 : Int32) (x5 : Int32) : Option ((Int32) ⊕ (Int32 × g_S)) := g_run (fun S : Int32 × Int32 × Int32 => f201_30 s p1 x2 S.1 S.2.1 S.2.2) (x3, (x4, x5))
theorem f201_30L_eq (s : g_S) (p1 : Int32) (x2 : Int32) (x3 : Int32) (x4 : Int32) (x5 : Int32) : f201_30L s p1 x2 x3 x4 x5 = g_st (f201_30 s p1 x2 x3 x4 x5) (fun S => f201_30L s p1 x2 S.1 S.2.1 S.2.2) := by
  unfold f201_30L
  exact g_run_eq _ _
theorem P201_30L {d ex : Nat} {rr : m_R} {s : g_S} {p1 : Int32} {x2 : Int32} {x3 : Int32} {x4 : Int32} {x5 : Int32} {u6 : Option Value}   {z : ((Int32) ⊕ (Int32 × g_S))} (H : f201_30L s p1 x2 x3 x4 x5 = some z) (hd : 82 ≤ d) (K0 : ∀ S : Int32, z = .inl S → ∀ u3 u4 u5 u6 : Option Value, n_R X (d + 1) 201 20 [some (.ref 199), some (.int p1), some (.int S), u3, u4, u5, u6] [] (g_M s ex) rr) (Kr : ∀ q, z = .inr (q) → g_rSI q ex = rr) : n_R X (d + 1) 201 30 [some (.ref 199), some (.int p1), some (.int x2), some (.int x3), some (.int x4), some (.int x5), u6] [] (g_M s ex) rr := by
  unfold f201_30L at H
  have KO0 := K0
  have KOr := Kr
  refine g_rs (Q := fun S => ∀ u6 : Option Value, n_R X (d + 1) 201 30 [some (.ref 199), some (.int p1), some (.int x2), some (.int S.1), some (.int S.2.1), some (.int S.2.2), u6] [] (g_M s ex) rr) H ?_ u6
  intro S w hb K0 KK u6
  refine P201_30 hb hd ?_ ?_ ?_
  · exact fun S1 e1 => K0 S1 e1
  · exact fun S1 e1 => KO0 S1 (KK _ e1).symm
  · exact fun q e1 => KOr q (KK _ e1).symm
noncomputable def f201_20 (s : g_S) (p1 : Int32) (x2 : Int32) : Option ((Int32) ⊕ (Int32 × g_S)) := (if x2 < (s 199 43) then (f201_30L s p1 x2 0 0 0) else (some (.inr (((-1), s)))))
theorem P201_20 {d ex : Nat} {rr : m_R} {s : g_S} {p1 : Int32} {x2 : Int32} {u3 u4 u5 u6 : Option Value}   {z : ((Int32) ⊕ (Int32 × g_S))} (H : f201_20 s p1 x2 = some z) (hd : 82 ≤ d) (K0 : ∀ S : Int32, z = .inl S → ∀ u3 u4 u5 u6 : Option Value, n_R X (d + 1) 201 20 [some (.ref 199), some (.int p1), some (.int S), u3, u4, u5, u6] [] (g_M s ex) rr) (Kr : ∀ q, z = .inr (q) → g_rSI q ex = rr) : n_R X (d + 1) 201 20 [some (.ref 199), some (.int p1), some (.int x2), u3, u4, u5, u6] [] (g_M s ex) rr := by
  unfold f201_20 at H
  refine g_go 2 md_201 (i1 := 22) rfl ?_
  refine g_getf (n_q md_201 rfl) t_199 rfl ?_
  by_cases h1 : x2 < (s 199 43)
  · rw [if_pos h1] at H
    refine n_cmpF (n_q md_201 rfl) (fun e1 => absurd (of_decide_eq_true e1) (Int32.not_le.mpr h1)) ?_
    refine g_go 6 md_201 (i1 := 30) (ls1 := [some (.ref 199), some (.int p1), some (.int x2), some (.int 0), some (.int 0), some (.int 0), u6]) rfl ?_
    exact P201_30L H hd K0 Kr
  · rw [if_neg h1] at H
    refine n_cmpT (n_q md_201 rfl) (decide_eq_true (Int32.not_lt.mp h1)) ?_
    refine g_go 1 md_201 (i1 := 95) rfl ?_
    cases H
    rw [← Kr _ rfl]
    exact n_iret (n_q md_201 rfl) (Or.inl rfl)
noncomputable def f201_20L (s : g_S) (p1 : Int32) (x2 : Int32) : Option (Int32 × g_S) := g_run (fun S : Int32 => f201_20 s p1 S) x2
theorem f201_20L_eq (s : g_S) (p1 : Int32) (x2 : Int32) : f201_20L s p1 x2 = g_st (f201_20 s p1 x2) (fun S => f201_20L s p1 S) := by
  unfold f201_20L
  exact g_run_eq _ _
theorem P201_20L {d ex : Nat} {s : g_S} {p1 : Int32} {x2 : Int32} {u3 u4 u5 u6 : Option Value}   {z : (Int32 × g_S)} (H : f201_20L s p1 x2 = some z) (hd : 82 ≤ d)  : n_R X (d + 1) 201 20 [some (.ref 199), some (.int p1), some (.int x2), u3, u4, u5, u6] [] (g_M s ex) (g_rSI z ex) := by
  unfold f201_20L at H
  refine g_rs (Q := fun S => ∀ u3 u4 u5 u6 : Option Value, n_R X (d + 1) 201 20 [some (.ref 199), some (.int p1), some (.int S), u3, u4, u5, u6] [] (g_M s ex) (g_rSI z ex)) H ?_ u3 u4 u5 u6
  intro S w hb K0 KK u3 u4 u5 u6
  refine P201_20 hb hd ?_ ?_
  · exact fun S1 e1 => K0 S1 e1
  · exact fun q e1 => by rw [KK q e1]
noncomputable def f201_11 (s : g_S) (p1 : Int32) (y1 : Int32) : Option (Int32 × g_S) := (g_bd (f134 s y1 1) fun v1 s2 => if v1 = 0 then ((f196 s2).bind fun s5 => f201_20L s5 p1 0) else (some ((0, s2))))
theorem P201_11 {d ex : Nat} {s : g_S} {p1 : Int32} {y1 : Int32} {u2 u3 u4 u5 u6 : Option Value}   {z : (Int32 × g_S)} (H : f201_11 s p1 y1 = some z) (hd : 82 ≤ d)  : n_R X (d + 1) 201 11 [some (.ref 199), some (.int p1), u2, u3, u4, u5, u6] [.int y1, .ref 199] (g_M s ex) (g_rSI z ex) := by
  unfold f201_11 at H
  refine g_go 1 md_201 (i1 := 12) rfl ?_
  obtain ⟨v1, s2, hv1, H⟩ := g_bdp H
  refine n_callv (n_q md_201 rfl) (As := [.ref 199, .int y1, .int 1]) (rest := []) rfl rfl (Nat.le_of_ble_eq_true rfl) rfl (g_recv (b := 0) rfl t_199 rfl) (C134 (by omega) hv1) ?_
  by_cases h3 : v1 = 0
  · rw [if_pos h3] at H
    refine n_ifT (n_q md_201 rfl) (decide_eq_true h3) ?_
    refine g_go 1 md_201 (i1 := 17) rfl ?_
    obtain ⟨s5, hs5, H⟩ := g_bind H
    refine n_call (n_q md_201 rfl) (As := [.ref 199]) (rest := []) rfl rfl (Nat.le_of_ble_eq_true rfl) rfl (g_recv (b := 0) rfl t_199 rfl) (C196 (by omega) hs5) ?_
    refine g_go 2 md_201 (i1 := 20) (ls1 := [some (.ref 199), some (.int p1), some (.int 0), u3, u4, u5, u6]) rfl ?_
    exact P201_20L H hd
  · rw [if_neg h3] at H
    refine n_ifF (n_q md_201 rfl) (fun e1 => h3 (of_decide_eq_true e1)) ?_
    refine g_go 1 md_201 (i1 := 15) rfl ?_
    cases H
    exact n_iret (n_q md_201 rfl) (Or.inl rfl)
noncomputable def f201 (s : g_S) (p1 : Int32) : Option (Int32 × g_S) := (g_let (g_w s 199 0 0) fun s1 => (f173 s1 p1).bind fun v2 => if v2 = 0 then (f201_11 s1 p1 1) else (f201_11 s1 p1 0))
theorem C201 {d ex : Nat} {s : g_S} {p1 : Int32}  {z : Int32 × g_S} (hd : 82 < d) (H : f201 s p1 = some z) : n_C X d 201 [.ref 199, .int p1] (g_M s ex) (g_rSI z ex) := by
  obtain ⟨d, rfl⟩ : ∃ d1, d = d1 + 1 := ⟨d - 1, by omega⟩
  replace hd := Nat.le_of_lt_succ hd
  refine ⟨Nat.le_of_ble_eq_true rfl, ?_⟩
  rw [md_201]
  show n_R X (d + 1) 201 0 [some (.ref 199), some (.int p1), none, none, none, none, none] [] (g_M s ex) _
  unfold f201 at H
  refine g_go 2 md_201 (i1 := 2) rfl ?_
  obtain ⟨s1, es1, H⟩ := g_letp H
  refine g_putf (n_q md_201 rfl) t_199 rfl rfl es1 ?_
  refine g_go 3 md_201 (i1 := 6) rfl ?_
  obtain ⟨v2, hv2, H⟩ := g_bind H
  refine n_callv (n_q md_201 rfl) (As := [.ref 199, .int p1]) (rest := [.ref 199]) rfl rfl (Nat.le_of_ble_eq_true rfl) rfl (g_recv (b := 0) rfl t_199 rfl) (C173 (by omega) hv2) ?_
  by_cases h3 : v2 = 0
  · rw [if_pos h3] at H
    refine n_ifF (n_q md_201 rfl) (fun e1 => of_decide_eq_true e1 h3) ?_
    refine g_go 2 md_201 (i1 := 11) rfl ?_
    exact P201_11 H hd
  · rw [if_neg h3] at H
    refine n_ifT (n_q md_201 rfl) (decide_eq_true h3) ?_
    refine g_go 1 md_201 (i1 := 11) rfl ?_
    exact P201_11 H hd

end K9
