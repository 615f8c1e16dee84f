/-! METHODS, written by wip/whole/gen_51.py (8). -/
section K8
variable {X : m_X}
theorem md_173 : m_md 173 = m_X8_isHand := rfl
noncomputable def f173 (s : g_S) (p1 : Int32) : Option (Int32) := ((f135 s p1 0 ((s 199 26) - 1)).bind fun v1 => if m_isb v1 = true then some v1 else none)
theorem C173 {d ex : Nat} {s : g_S} {p1 : Int32}  {z : Int32} (hd : 13 < d) (H : f173 s p1 = some z) : n_C X d 173 [.ref 199, .int p1] (g_M s ex) (g_rPI s z ex) := by
  obtain ⟨d, rfl⟩ : ∃ d1, d = d1 + 1 := ⟨d - 1, by omega⟩
  replace hd := Nat.le_of_lt_succ hd
  refine ⟨Nat.le_of_ble_eq_true rfl, ?_⟩
  rw [md_173]
  show n_R X (d + 1) 173 0 [some (.ref 199), some (.int p1)] [] (g_M s ex) _
  unfold f173 at H
  refine g_go 3 md_173 (i1 := 3) rfl ?_
  refine g_getf (n_q md_173 rfl) t_199 rfl ?_
  refine g_go 2 md_173 (i1 := 6) rfl ?_
  obtain ⟨v1, hv1, H⟩ := g_bind H
  refine n_callv (n_q md_173 rfl) (As := [.int p1, .int 0, .int ((s 199 26) - 1)]) (rest := []) rfl rfl (Nat.le_of_ble_eq_true rfl) rfl rfl (C135 (by omega) hv1) ?_
  obtain ⟨hb2, H⟩ := g_gd H
  cases H
  exact n_iret (n_q md_173 rfl) (Or.inr hb2)

theorem md_174 : m_md 174 = m_X8_hand := rfl
noncomputable def f174_23 (s : g_S) (p1 : Int32) (p2 : Int32) (y1 : Int32) : Option (Int32 × g_S) := (g_bd (f134 s y1 2) fun v1 s2 => if v1 = 0 then (if p2 = 5 then (if m_in p1 13 = true then some ((s2 222 p1.toNatClampNeg, s2)) else none) else (if p1 = 0 then (some (((-1), s2))) else (if m_in p1 13 = true then if m_in p2 5 = true then some ((s2 (209 + p1.toNatClampNeg) p2.toNatClampNeg, s2)) else none else none))) else (some ((0, s2))))
theorem P174_23 {d ex : Nat} {s : g_S} {p1 : Int32} {p2 : Int32} {y1 : Int32}   {z : (Int32 × g_S)} (H : f174_23 s p1 p2 y1 = some z) (hd : 14 ≤ d)  : n_R X (d + 1) 174 23 [some (.ref 199), some (.int p1), some (.int p2)] [.int y1, .ref 199] (g_M s ex) (g_rSI z ex) := by
  unfold f174_23 at H
  refine g_go 1 md_174 (i1 := 24) rfl ?_
  obtain ⟨v1, s2, hv1, H⟩ := g_bdp H
  refine n_callv (n_q md_174 rfl) (As := [.ref 199, .int y1, .int 2]) (rest := []) rfl rfl (Nat.le_of_ble_eq_true rfl) rfl (g_recv (b := 0) rfl t_199 rfl) (C134 (by omega) hv1) ?_
  by_cases h3 : v1 = 0
  · rw [if_pos h3] at H
    refine n_ifT (n_q md_174 rfl) (decide_eq_true h3) ?_
    refine g_go 2 md_174 (i1 := 30) rfl ?_
    by_cases h4 : p2 = 5
    · rw [if_pos h4] at H
      refine n_cmpF (n_q md_174 rfl) (fun e1 => of_decide_eq_true e1 h4) ?_
      refine g_go 1 md_174 (i1 := 32) rfl ?_
      refine g_getr 222 (n_q md_174 rfl) t_199 rfl ?_
      refine g_go 1 md_174 (i1 := 34) rfl ?_
      obtain ⟨h5, H⟩ := g_gd H
      refine g_iald (n_q md_174 rfl) t_222 h5 ?_
      refine g_go 1 md_174 (i1 := 46) rfl ?_
      cases H
      exact n_iret (n_q md_174 rfl) (Or.inl rfl)
    · rw [if_neg h4] at H
      refine n_cmpT (n_q md_174 rfl) (decide_eq_true h4) ?_
      refine g_go 1 md_174 (i1 := 37) rfl ?_
      by_cases h5 : p1 = 0
      · rw [if_pos h5] at H
        refine n_ifF (n_q md_174 rfl) (fun e1 => of_decide_eq_true e1 h5) ?_
        refine g_go 2 md_174 (i1 := 46) rfl ?_
        cases H
        exact n_iret (n_q md_174 rfl) (Or.inl rfl)
      · rw [if_neg h5] at H
        refine n_ifT (n_q md_174 rfl) (decide_eq_true h5) ?_
        refine g_go 1 md_174 (i1 := 41) rfl ?_
        refine g_getr 208 (n_q md_174 rfl) t_199 rfl ?_
        refine g_go 1 md_174 (i1 := 43) rfl ?_
        obtain ⟨h6, H⟩ := g_gd H
        refine g_aald (n_q md_174 rfl) ta_208 (by decide) h6 (g_range (g_inlt h6)) ?_
        refine g_go 1 md_174 (i1 := 45) rfl ?_
        obtain ⟨h7, H⟩ := g_gd H
        refine g_iald (n_q md_174 rfl) (te_208 (g_inlt h6)) h7 ?_
        cases H
        exact n_iret (n_q md_174 rfl) (Or.inl rfl)
  · rw [if_neg h3] at H
    refine n_ifF (n_q md_174 rfl) (fun e1 => h3 (of_decide_eq_true e1)) ?_
    refine g_go 1 md_174 (i1 := 27) rfl ?_
    cases H
    exact n_iret (n_q md_174 rfl) (Or.inl rfl)
noncomputable def f174_11 (s : g_S) (p1 : Int32) (p2 : Int32) (y1 : Int32) : Option (Int32 × g_S) := (g_bd (f134 s y1 1) fun v1 s2 => if v1 = 0 then ((f135 s2 p2 0 5).bind fun v4 => if v4 = 0 then (f174_23 s2 p1 p2 1) else (f174_23 s2 p1 p2 0)) else (some ((0, s2))))
theorem P174_11 {d ex : Nat} {s : g_S} {p1 : Int32} {p2 : Int32} {y1 : Int32}   {z : (Int32 × g_S)} (H : f174_11 s p1 p2 y1 = some z) (hd : 14 ≤ d)  : n_R X (d + 1) 174 11 [some (.ref 199), some (.int p1), some (.int p2)] [.int y1, .ref 199] (g_M s ex) (g_rSI z ex) := by
  unfold f174_11 at H
  refine g_go 1 md_174 (i1 := 12) rfl ?_
  obtain ⟨v1, s2, hv1, H⟩ := g_bdp H
  refine n_callv (n_q md_174 rfl) (As := [.ref 199, .int y1, .int 1]) (rest := []) rfl rfl (Nat.le_of_ble_eq_true rfl) rfl (g_recv (b := 0) rfl t_199 rfl) (C134 (by omega) hv1) ?_
  by_cases h3 : v1 = 0
  · rw [if_pos h3] at H
    refine n_ifF (n_q md_174 rfl) (fun e1 => of_decide_eq_true e1 h3) ?_
    refine g_go 4 md_174 (i1 := 18) rfl ?_
    obtain ⟨v4, hv4, H⟩ := g_bind H
    refine n_callv (n_q md_174 rfl) (As := [.int p2, .int 0, .int 5]) (rest := [.ref 199]) rfl rfl (Nat.le_of_ble_eq_true rfl) rfl rfl (C135 (by omega) hv4) ?_
    by_cases h5 : v4 = 0
    · rw [if_pos h5] at H
      refine n_ifF (n_q md_174 rfl) (fun e1 => of_decide_eq_true e1 h5) ?_
      refine g_go 2 md_174 (i1 := 23) rfl ?_
      exact P174_23 H hd
    · rw [if_neg h5] at H
      refine n_ifT (n_q md_174 rfl) (decide_eq_true h5) ?_
      refine g_go 1 md_174 (i1 := 23) rfl ?_
      exact P174_23 H hd
  · rw [if_neg h3] at H
    refine n_ifT (n_q md_174 rfl) (decide_eq_true h3) ?_
    refine g_go 1 md_174 (i1 := 27) rfl ?_
    cases H
    exact n_iret (n_q md_174 rfl) (Or.inl rfl)
noncomputable def f174 (s : g_S) (p1 : Int32) (p2 : Int32) : Option (Int32 × g_S) := (g_let (g_w s 199 0 0) fun s1 => (f173 s1 p1).bind fun v2 => if v2 = 0 then (f174_11 s1 p1 p2 1) else (f174_11 s1 p1 p2 0))
theorem C174 {d ex : Nat} {s : g_S} {p1 : Int32} {p2 : Int32}  {z : Int32 × g_S} (hd : 14 < d) (H : f174 s p1 p2 = some z) : n_C X d 174 [.ref 199, .int p1, .int p2] (g_M s ex) (g_rSI z ex) := by
  obtain ⟨d, rfl⟩ : ∃ d1, d = d1 + 1 := ⟨d - 1, by omega⟩
  replace hd := Nat.le_of_lt_succ hd
  refine ⟨Nat.le_of_ble_eq_true rfl, ?_⟩
  rw [md_174]
  show n_R X (d + 1) 174 0 [some (.ref 199), some (.int p1), some (.int p2)] [] (g_M s ex) _
  unfold f174 at H
  refine g_go 2 md_174 (i1 := 2) rfl ?_
  obtain ⟨s1, es1, H⟩ := g_letp H
  refine g_putf (n_q md_174 rfl) t_199 rfl rfl es1 ?_
  refine g_go 3 md_174 (i1 := 6) rfl ?_
  obtain ⟨v2, hv2, H⟩ := g_bind H
  refine n_callv (n_q md_174 rfl) (As := [.ref 199, .int p1]) (rest := [.ref 199]) rfl rfl (Nat.le_of_ble_eq_true rfl) rfl (g_recv (b := 0) rfl t_199 rfl) (C173 (by omega) hv2) ?_
  by_cases h3 : v2 = 0
  · rw [if_pos h3] at H
    refine n_ifF (n_q md_174 rfl) (fun e1 => of_decide_eq_true e1 h3) ?_
    refine g_go 2 md_174 (i1 := 11) rfl ?_
    exact P174_11 H hd
  · rw [if_neg h3] at H
    refine n_ifT (n_q md_174 rfl) (decide_eq_true h3) ?_
    refine g_go 1 md_174 (i1 := 11) rfl ?_
    exact P174_11 H hd

theorem md_175 : m_md 175 = m_X8_value := rfl
noncomputable def f175_12 (s : g_S) (p1 : Int32) (y1 : Int32) : Option (Int32 × g_S) := (g_bd (f134 s y1 1) fun v1 s2 => if v1 = 0 then (g_let (g_w s2 199 27 p1) fun s4 => some ((s2 199 27, s4))) else (some ((0, s2))))
theorem P175_12 {d ex : Nat} {s : g_S} {p1 : Int32} {y1 : Int32} {u2 : Option Value}   {z : (Int32 × g_S)} (H : f175_12 s p1 y1 = some z) (hd : 13 ≤ d)  : n_R X (d + 1) 175 12 [some (.ref 199), some (.int p1), u2] [.int y1, .ref 199] (g_M s ex) (g_rSI z ex) := by
  unfold f175_12 at H
  refine g_go 1 md_175 (i1 := 13) rfl ?_
  obtain ⟨v1, s2, hv1, H⟩ := g_bdp H
  refine n_callv (n_q md_175 rfl) (As := [.ref 199, .int y1, .int 1]) (rest := []) rfl rfl (Nat.le_of_ble_eq_true rfl) rfl (g_recv (b := 0) rfl t_199 rfl) (C134 (by omega) hv1) ?_
  by_cases h3 : v1 = 0
  · rw [if_pos h3] at H
    refine n_ifT (n_q md_175 rfl) (decide_eq_true h3) ?_
    refine g_go 1 md_175 (i1 := 18) rfl ?_
    refine g_getf (n_q md_175 rfl) t_199 rfl ?_
    refine g_go 3 md_175 (i1 := 22) (ls1 := [some (.ref 199), some (.int p1), some (.int (s2 199 27))]) rfl ?_
    obtain ⟨s4, es4, H⟩ := g_letp H
    refine g_putf (n_q md_175 rfl) t_199 rfl rfl es4 ?_
    refine g_go 1 md_175 (i1 := 24) rfl ?_
    cases H
    exact n_iret (n_q md_175 rfl) (Or.inl rfl)
  · rw [if_neg h3] at H
    refine n_ifF (n_q md_175 rfl) (fun e1 => h3 (of_decide_eq_true e1)) ?_
    refine g_go 1 md_175 (i1 := 16) rfl ?_
    cases H
    exact n_iret (n_q md_175 rfl) (Or.inl rfl)
noncomputable def f175 (s : g_S) (p1 : Int32) : Option (Int32 × g_S) := (g_let (g_w s 199 0 0) fun s1 => (f135 s1 p1 0 9999).bind fun v2 => if v2 = 0 then (f175_12 s1 p1 1) else (f175_12 s1 p1 0))
theorem C175 {d ex : Nat} {s : g_S} {p1 : Int32}  {z : Int32 × g_S} (hd : 13 < d) (H : f175 s p1 = some z) : n_C X d 175 [.ref 199, .int p1] (g_M s ex) (g_rSI z ex) := by
  obtain ⟨d, rfl⟩ : ∃ d1, d = d1 + 1 := ⟨d - 1, by omega⟩
  replace hd := Nat.le_of_lt_succ hd
  refine ⟨Nat.le_of_ble_eq_true rfl, ?_⟩
  rw [md_175]
  show n_R X (d + 1) 175 0 [some (.ref 199), some (.int p1), none] [] (g_M s ex) _
  unfold f175 at H
  refine g_go 2 md_175 (i1 := 2) rfl ?_
  obtain ⟨s1, es1, H⟩ := g_letp H
  refine g_putf (n_q md_175 rfl) t_199 rfl rfl es1 ?_
  refine g_go 4 md_175 (i1 := 7) rfl ?_
  obtain ⟨v2, hv2, H⟩ := g_bind H
  refine n_callv (n_q md_175 rfl) (As := [.int p1, .int 0, .int 9999]) (rest := [.ref 199]) rfl rfl (Nat.le_of_ble_eq_true rfl) rfl rfl (C135 (by omega) hv2) ?_
  by_cases h3 : v2 = 0
  · rw [if_pos h3] at H
    refine n_ifF (n_q md_175 rfl) (fun e1 => of_decide_eq_true e1 h3) ?_
    refine g_go 2 md_175 (i1 := 12) rfl ?_
    exact P175_12 H hd
  · rw [if_neg h3] at H
    refine n_ifT (n_q md_175 rfl) (decide_eq_true h3) ?_
    refine g_go 1 md_175 (i1 := 12) rfl ?_
    exact P175_12 H hd

theorem md_176 : m_md 176 = m_X8_purse := rfl
noncomputable def f176_23 (s : g_S) (p1 : Int32) (p2 : Int32) (y1 : Int32) : Option (Int32 × g_S) := (g_bd (f134 s y1 2) fun v1 s2 => if v1 = 0 then (if m_in p1 13 = true then g_let (g_w s2 222 p1.toNatClampNeg p2) fun s5 => some ((s2 222 p1.toNatClampNeg, s5)) else none) else (some ((0, s2))))
theorem P176_23 {d ex : Nat} {s : g_S} {p1 : Int32} {p2 : Int32} {y1 : Int32} {u3 : Option Value}   {z : (Int32 × g_S)} (H : f176_23 s p1 p2 y1 = some z) (hd : 14 ≤ d)  : n_R X (d + 1) 176 23 [some (.ref 199), some (.int p1), some (.int p2), u3] [.int y1, .ref 199] (g_M s ex) (g_rSI z ex) := by
  unfold f176_23 at H
  refine g_go 1 md_176 (i1 := 24) rfl ?_
  obtain ⟨v1, s2, hv1, H⟩ := g_bdp H
  refine n_callv (n_q md_176 rfl) (As := [.ref 199, .int y1, .int 2]) (rest := []) rfl rfl (Nat.le_of_ble_eq_true rfl) rfl (g_recv (b := 0) rfl t_199 rfl) (C134 (by omega) hv1) ?_
  by_cases h3 : v1 = 0
  · rw [if_pos h3] at H
    refine n_ifT (n_q md_176 rfl) (decide_eq_true h3) ?_
    refine g_go 1 md_176 (i1 := 29) rfl ?_
    refine g_getr 222 (n_q md_176 rfl) t_199 rfl ?_
    refine g_go 1 md_176 (i1 := 31) rfl ?_
    obtain ⟨h4, H⟩ := g_gd H
    refine g_iald (n_q md_176 rfl) t_222 h4 ?_
    refine g_go 2 md_176 (i1 := 34) (ls1 := [some (.ref 199), some (.int p1), some (.int p2), some (.int (s2 222 p1.toNatClampNeg))]) rfl ?_
    refine g_getr 222 (n_q md_176 rfl) t_199 rfl ?_
    refine g_go 2 md_176 (i1 := 37) rfl ?_
    obtain ⟨s5, es5, H⟩ := g_letp H
    refine g_iast (n_q md_176 rfl) t_222 h4 es5 ?_
    refine g_go 1 md_176 (i1 := 39) rfl ?_
    cases H
    exact n_iret (n_q md_176 rfl) (Or.inl rfl)
  · rw [if_neg h3] at H
    refine n_ifF (n_q md_176 rfl) (fun e1 => h3 (of_decide_eq_true e1)) ?_
    refine g_go 1 md_176 (i1 := 27) rfl ?_
    cases H
    exact n_iret (n_q md_176 rfl) (Or.inl rfl)
noncomputable def f176_11 (s : g_S) (p1 : Int32) (p2 : Int32) (y1 : Int32) : Option (Int32 × g_S) := (g_bd (f134 s y1 1) fun v1 s2 => if v1 = 0 then ((f135 s2 p2 0 9999).bind fun v4 => if v4 = 0 then (f176_23 s2 p1 p2 1) else (f176_23 s2 p1 p2 0)) else (some ((0, s2))))
theorem P176_11 {d ex : Nat} {s : g_S} {p1 : Int32} {p2 : Int32} {y1 : Int32} {u3 : Option Value}   {z : (Int32 × g_S)} (H : f176_11 s p1 p2 y1 = some z) (hd : 14 ≤ d)  : n_R X (d + 1) 176 11 [some (.ref 199), some (.int p1), some (.int p2), u3] [.int y1, .ref 199] (g_M s ex) (g_rSI z ex) := by
  unfold f176_11 at H
  refine g_go 1 md_176 (i1 := 12) rfl ?_
  obtain ⟨v1, s2, hv1, H⟩ := g_bdp H
  refine n_callv (n_q md_176 rfl) (As := [.ref 199, .int y1, .int 1]) (rest := []) rfl rfl (Nat.le_of_ble_eq_true rfl) rfl (g_recv (b := 0) rfl t_199 rfl) (C134 (by omega) hv1) ?_
  by_cases h3 : v1 = 0
  · rw [if_pos h3] at H
    refine n_ifF (n_q md_176 rfl) (fun e1 => of_decide_eq_true e1 h3) ?_
    refine g_go 4 md_176 (i1 := 18) rfl ?_
    obtain ⟨v4, hv4, H⟩ := g_bind H
    refine n_callv (n_q md_176 rfl) (As := [.int p2, .int 0, .int 9999]) (rest := [.ref 199]) rfl rfl (Nat.le_of_ble_eq_true rfl) rfl rfl (C135 (by omega) hv4) ?_
    by_cases h5 : v4 = 0
    · rw [if_pos h5] at H
      refine n_ifF (n_q md_176 rfl) (fun e1 => of_decide_eq_true e1 h5) ?_
      refine g_go 2 md_176 (i1 := 23) rfl ?_
      exact P176_23 H hd
    · rw [if_neg h5] at H
      refine n_ifT (n_q md_176 rfl) (decide_eq_true h5) ?_
      refine g_go 1 md_176 (i1 := 23) rfl ?_
      exact P176_23 H hd
  · rw [if_neg h3] at H
    refine n_ifT (n_q md_176 rfl) (decide_eq_true h3) ?_
    refine g_go 1 md_176 (i1 := 27) rfl ?_
    cases H
    exact n_iret (n_q md_176 rfl) (Or.inl rfl)
noncomputable def f176 (s : g_S) (p1 : Int32) (p2 : Int32) : Option (Int32 × g_S) := (g_let (g_w s 199 0 0) fun s1 => (f173 s1 p1).bind fun v2 => if v2 = 0 then (f176_11 s1 p1 p2 1) else (f176_11 s1 p1 p2 0))
theorem C176 {d ex : Nat} {s : g_S} {p1 : Int32} {p2 : Int32}  {z : Int32 × g_S} (hd : 14 < d) (H : f176 s p1 p2 = some z) : n_C X d 176 [.ref 199, .int p1, .int p2] (g_M s ex) (g_rSI z ex) := by
  obtain ⟨d, rfl⟩ : ∃ d1, d = d1 + 1 := ⟨d - 1, by omega⟩
  replace hd := Nat.le_of_lt_succ hd
  refine ⟨Nat.le_of_ble_eq_true rfl, ?_⟩
  rw [md_176]
  show n_R X (d + 1) 176 0 [some (.ref 199), some (.int p1), some (.int p2), none] [] (g_M s ex) _
  unfold f176 at H
  refine g_go 2 md_176 (i1 := 2) rfl ?_
  obtain ⟨s1, es1, H⟩ := g_letp H
  refine g_putf (n_q md_176 rfl) t_199 rfl rfl es1 ?_
  refine g_go 3 md_176 (i1 := 6) rfl ?_
  obtain ⟨v2, hv2, H⟩ := g_bind H
  refine n_callv (n_q md_176 rfl) (As := [.ref 199, .int p1]) (rest := [.ref 199]) rfl rfl (Nat.le_of_ble_eq_true rfl) rfl (g_recv (b := 0) rfl t_199 rfl) (C173 (by omega) hv2) ?_
  by_cases h3 : v2 = 0
  · rw [if_pos h3] at H
    refine n_ifF (n_q md_176 rfl) (fun e1 => of_decide_eq_true e1 h3) ?_
    refine g_go 2 md_176 (i1 := 11) rfl ?_
    exact P176_11 H hd
  · rw [if_neg h3] at H
    refine n_ifT (n_q md_176 rfl) (decide_eq_true h3) ?_
    refine g_go 1 md_176 (i1 := 11) rfl ?_
    exact P176_11 H hd

theorem md_177 : m_md 177 = m_X8_fact := rfl
noncomputable def f177_23 (s : g_S) (p1 : Int32) (p2 : Int32) (p3 : Int32) (y1 : Int32) : Option (Int32 × g_S) := (g_bd (f134 s y1 2) fun v1 s2 => if v1 = 0 then (if m_in p1 13 = true then if m_in p2 4 = true then if m_isb p3 = true then g_let (g_w s2 (225 + p1.toNatClampNeg) p2.toNatClampNeg p3) fun s7 => if m_isb (s2 (225 + p1.toNatClampNeg) p2.toNatClampNeg) = true then some ((s2 (225 + p1.toNatClampNeg) p2.toNatClampNeg, s7)) else none else none else none else none) else (some ((0, s2))))
theorem P177_23 {d ex : Nat} {s : g_S} {p1 : Int32} {p2 : Int32} {p3 : Int32} {y1 : Int32} {u4 : Option Value}   {z : (Int32 × g_S)} (H : f177_23 s p1 p2 p3 y1 = some z) (hd : 14 ≤ d)  : n_R X (d + 1) 177 23 [some (.ref 199), some (.int p1), some (.int p2), some (.int p3), u4] [.int y1, .ref 199] (g_M s ex) (g_rSI z ex) := by
  unfold f177_23 at H
  refine g_go 1 md_177 (i1 := 24) rfl ?_
  obtain ⟨v1, s2, hv1, H⟩ := g_bdp H
  refine n_callv (n_q md_177 rfl) (As := [.ref 199, .int y1, .int 2]) (rest := []) rfl rfl (Nat.le_of_ble_eq_true rfl) rfl (g_recv (b := 0) rfl t_199 rfl) (C134 (by omega) hv1) ?_
  by_cases h3 : v1 = 0
  · rw [if_pos h3] at H
    refine n_ifT (n_q md_177 rfl) (decide_eq_true h3) ?_
    refine g_go 1 md_177 (i1 := 29) rfl ?_
    refine g_getr 224 (n_q md_177 rfl) t_199 rfl ?_
    refine g_go 1 md_177 (i1 := 31) rfl ?_
    obtain ⟨h4, H⟩ := g_gd H
    refine g_aald (n_q md_177 rfl) ta_224 (by decide) h4 (g_range (g_inlt h4)) ?_
    refine g_go 1 md_177 (i1 := 33) rfl ?_
    obtain ⟨h5, H⟩ := g_gd H
    refine g_bald (n_q md_177 rfl) (te_224 (g_inlt h4)) h5 ?_
    refine g_go 2 md_177 (i1 := 36) (ls1 := [some (.ref 199), some (.int p1), some (.int p2), some (.int p3), some (.int (s2 (225 + p1.toNatClampNeg) p2.toNatClampNeg))]) rfl ?_
    refine g_getr 224 (n_q md_177 rfl) t_199 rfl ?_
    refine g_go 1 md_177 (i1 := 38) rfl ?_
    refine g_aald (n_q md_177 rfl) ta_224 (by decide) h4 (g_range (g_inlt h4)) ?_
    refine g_go 2 md_177 (i1 := 41) rfl ?_
    obtain ⟨hb6, H⟩ := g_gd H
    obtain ⟨s7, es7, H⟩ := g_letp H
    refine g_bast (n_q md_177 rfl) (te_224 (g_inlt h4)) h5 hb6 es7 ?_
    refine g_go 1 md_177 (i1 := 43) rfl ?_
    obtain ⟨hb8, H⟩ := g_gd H
    cases H
    exact n_iret (n_q md_177 rfl) (Or.inr hb8)
  · rw [if_neg h3] at H
    refine n_ifF (n_q md_177 rfl) (fun e1 => h3 (of_decide_eq_true e1)) ?_
    refine g_go 1 md_177 (i1 := 27) rfl ?_
    cases H
    exact n_iret (n_q md_177 rfl) (Or.inr rfl)
noncomputable def f177_11 (s : g_S) (p1 : Int32) (p2 : Int32) (p3 : Int32) (y1 : Int32) : Option (Int32 × g_S) := (g_bd (f134 s y1 1) fun v1 s2 => if v1 = 0 then ((f135 s2 p2 0 3).bind fun v4 => if v4 = 0 then (f177_23 s2 p1 p2 p3 1) else (f177_23 s2 p1 p2 p3 0)) else (some ((0, s2))))
theorem P177_11 {d ex : Nat} {s : g_S} {p1 : Int32} {p2 : Int32} {p3 : Int32} {y1 : Int32} {u4 : Option Value}   {z : (Int32 × g_S)} (H : f177_11 s p1 p2 p3 y1 = some z) (hd : 14 ≤ d)  : n_R X (d + 1) 177 11 [some (.ref 199), some (.int p1), some (.int p2), some (.int p3), u4] [.int y1, .ref 199] (g_M s ex) (g_rSI z ex) := by
  unfold f177_11 at H
  refine g_go 1 md_177 (i1 := 12) rfl ?_
  obtain ⟨v1, s2, hv1, H⟩ := g_bdp H
  refine n_callv (n_q md_177 rfl) (As := [.ref 199, .int y1, .int 1]) (rest := []) rfl rfl (Nat.le_of_ble_eq_true rfl) rfl (g_recv (b := 0) rfl t_199 rfl) (C134 (by omega) hv1) ?_
  by_cases h3 : v1 = 0
  · rw [if_pos h3] at H
    refine n_ifF (n_q md_177 rfl) (fun e1 => of_decide_eq_true e1 h3) ?_
    refine g_go 4 md_177 (i1 := 18) rfl ?_
    obtain ⟨v4, hv4, H⟩ := g_bind H
    refine n_callv (n_q md_177 rfl) (As := [.int p2, .int 0, .int 3]) (rest := [.ref 199]) rfl rfl (Nat.le_of_ble_eq_true rfl) rfl rfl (C135 (by omega) hv4) ?_
    by_cases h5 : v4 = 0
    · rw [if_pos h5] at H
      refine n_ifF (n_q md_177 rfl) (fun e1 => of_decide_eq_true e1 h5) ?_
      refine g_go 2 md_177 (i1 := 23) rfl ?_
      exact P177_23 H hd
    · rw [if_neg h5] at H
      refine n_ifT (n_q md_177 rfl) (decide_eq_true h5) ?_
      refine g_go 1 md_177 (i1 := 23) rfl ?_
      exact P177_23 H hd
  · rw [if_neg h3] at H
    refine n_ifT (n_q md_177 rfl) (decide_eq_true h3) ?_
    refine g_go 1 md_177 (i1 := 27) rfl ?_
    cases H
    exact n_iret (n_q md_177 rfl) (Or.inr rfl)
noncomputable def f177 (s : g_S) (p1 : Int32) (p2 : Int32) (p3 : Int32) : Option (Int32 × g_S) := (g_let (g_w s 199 0 0) fun s1 => (f173 s1 p1).bind fun v2 => if v2 = 0 then (f177_11 s1 p1 p2 p3 1) else (f177_11 s1 p1 p2 p3 0))
theorem C177 {d ex : Nat} {s : g_S} {p1 : Int32} {p2 : Int32} {p3 : Int32}  {z : Int32 × g_S} (hd : 14 < d) (H : f177 s p1 p2 p3 = some z) : n_C X d 177 [.ref 199, .int p1, .int p2, .int p3] (g_M s ex) (g_rSI z ex) := by
  obtain ⟨d, rfl⟩ : ∃ d1, d = d1 + 1 := ⟨d - 1, by omega⟩
  replace hd := Nat.le_of_lt_succ hd
  refine ⟨Nat.le_of_ble_eq_true rfl, ?_⟩
  rw [md_177]
  show n_R X (d + 1) 177 0 [some (.ref 199), some (.int p1), some (.int p2), some (.int p3), none] [] (g_M s ex) _
  unfold f177 at H
  refine g_go 2 md_177 (i1 := 2) rfl ?_
  obtain ⟨s1, es1, H⟩ := g_letp H
  refine g_putf (n_q md_177 rfl) t_199 rfl rfl es1 ?_
  refine g_go 3 md_177 (i1 := 6) rfl ?_
  obtain ⟨v2, hv2, H⟩ := g_bind H
  refine n_callv (n_q md_177 rfl) (As := [.ref 199, .int p1]) (rest := [.ref 199]) rfl rfl (Nat.le_of_ble_eq_true rfl) rfl (g_recv (b := 0) rfl t_199 rfl) (C173 (by omega) hv2) ?_
  by_cases h3 : v2 = 0
  · rw [if_pos h3] at H
    refine n_ifF (n_q md_177 rfl) (fun e1 => of_decide_eq_true e1 h3) ?_
    refine g_go 2 md_177 (i1 := 11) rfl ?_
    exact P177_11 H hd
  · rw [if_neg h3] at H
    refine n_ifT (n_q md_177 rfl) (decide_eq_true h3) ?_
    refine g_go 1 md_177 (i1 := 11) rfl ?_
    exact P177_11 H hd

theorem md_178 : m_md 178 = m_X8_harm := rfl
noncomputable def f178_17 (s : g_S) (p1 : Int32) (p2 : Int32) (y1 : Int32) : Option (Int32 × g_S) := (g_bd (f134 s y1 1) fun v1 s2 => if v1 = 0 then (g_let (g_w s2 199 28 p1) fun s4 => g_let (g_w s4 199 29 p2) fun s5 => some ((s2 199 28, s5))) else (some ((0, s2))))
theorem P178_17 {d ex : Nat} {s : g_S} {p1 : Int32} {p2 : Int32} {y1 : Int32} {u3 : Option Value}   {z : (Int32 × g_S)} (H : f178_17 s p1 p2 y1 = some z) (hd : 13 ≤ d)  : n_R X (d + 1) 178 17 [some (.ref 199), some (.int p1), some (.int p2), u3] [.int y1, .ref 199] (g_M s ex) (g_rSI z ex) := by
  unfold f178_17 at H
  refine g_go 1 md_178 (i1 := 18) rfl ?_
  obtain ⟨v1, s2, hv1, H⟩ := g_bdp H
  refine n_callv (n_q md_178 rfl) (As := [.ref 199, .int y1, .int 1]) (rest := []) rfl rfl (Nat.le_of_ble_eq_true rfl) rfl (g_recv (b := 0) rfl t_199 rfl) (C134 (by omega) hv1) ?_
  by_cases h3 : v1 = 0
  · rw [if_pos h3] at H
    refine n_ifT (n_q md_178 rfl) (decide_eq_true h3) ?_
    refine g_go 1 md_178 (i1 := 23) rfl ?_
    refine g_getf (n_q md_178 rfl) t_199 rfl ?_
    refine g_go 3 md_178 (i1 := 27) (ls1 := [some (.ref 199), some (.int p1), some (.int p2), some (.int (s2 199 28))]) rfl ?_
    obtain ⟨s4, es4, H⟩ := g_letp H
    refine g_putf (n_q md_178 rfl) t_199 rfl rfl es4 ?_
    refine g_go 2 md_178 (i1 := 30) rfl ?_
    obtain ⟨s5, es5, H⟩ := g_letp H
    refine g_putf (n_q md_178 rfl) t_199 rfl rfl es5 ?_
    refine g_go 1 md_178 (i1 := 32) rfl ?_
    cases H
    exact n_iret (n_q md_178 rfl) (Or.inl rfl)
  · rw [if_neg h3] at H
    refine n_ifF (n_q md_178 rfl) (fun e1 => h3 (of_decide_eq_true e1)) ?_
    refine g_go 1 md_178 (i1 := 21) rfl ?_
    cases H
    exact n_iret (n_q md_178 rfl) (Or.inl rfl)
noncomputable def f178_14 (s : g_S) (p1 : Int32) (p2 : Int32) : Option (Int32 × g_S) := (f178_17 s p1 p2 1)
theorem P178_14 {d ex : Nat} {s : g_S} {p1 : Int32} {p2 : Int32} {u3 : Option Value}   {z : (Int32 × g_S)} (H : f178_14 s p1 p2 = some z) (hd : 13 ≤ d)  : n_R X (d + 1) 178 14 [some (.ref 199), some (.int p1), some (.int p2), u3] [.ref 199] (g_M s ex) (g_rSI z ex) := by
  unfold f178_14 at H
  refine g_go 2 md_178 (i1 := 17) rfl ?_
  exact P178_17 H hd
noncomputable def f178 (s : g_S) (p1 : Int32) (p2 : Int32) : Option (Int32 × g_S) := (g_let (g_w s 199 0 0) fun s1 => (f135 s1 p1 ((-1)) 5).bind fun v2 => if v2 = 0 then (f178_14 s1 p1 p2) else ((f135 s1 p2 0 999).bind fun v4 => if v4 = 0 then (f178_14 s1 p1 p2) else (f178_17 s1 p1 p2 0)))
theorem C178 {d ex : Nat} {s : g_S} {p1 : Int32} {p2 : Int32}  {z : Int32 × g_S} (hd : 13 < d) (H : f178 s p1 p2 = some z) : n_C X d 178 [.ref 199, .int p1, .int p2] (g_M s ex) (g_rSI z ex) := by
  obtain ⟨d, rfl⟩ : ∃ d1, d = d1 + 1 := ⟨d - 1, by omega⟩
  replace hd := Nat.le_of_lt_succ hd
  refine ⟨Nat.le_of_ble_eq_true rfl, ?_⟩
  rw [md_178]
  show n_R X (d + 1) 178 0 [some (.ref 199), some (.int p1), some (.int p2), none] [] (g_M s ex) _
  unfold f178 at H
  refine g_go 2 md_178 (i1 := 2) rfl ?_
  obtain ⟨s1, es1, H⟩ := g_letp H
  refine g_putf (n_q md_178 rfl) t_199 rfl rfl es1 ?_
  refine g_go 4 md_178 (i1 := 7) rfl ?_
  obtain ⟨v2, hv2, H⟩ := g_bind H
  refine n_callv (n_q md_178 rfl) (As := [.int p1, .int ((-1)), .int 5]) (rest := [.ref 199]) rfl rfl (Nat.le_of_ble_eq_true rfl) rfl rfl (C135 (by omega) hv2) ?_
  by_cases h3 : v2 = 0
  · rw [if_pos h3] at H
    refine n_ifT (n_q md_178 rfl) (decide_eq_true h3) ?_
    exact P178_14 H hd
  · rw [if_neg h3] at H
    refine n_ifF (n_q md_178 rfl) (fun e1 => h3 (of_decide_eq_true e1)) ?_
    refine g_go 3 md_178 (i1 := 12) rfl ?_
    obtain ⟨v4, hv4, H⟩ := g_bind H
    refine n_callv (n_q md_178 rfl) (As := [.int p2, .int 0, .int 999]) (rest := [.ref 199]) rfl rfl (Nat.le_of_ble_eq_true rfl) rfl rfl (C135 (by omega) hv4) ?_
    by_cases h5 : v4 = 0
    · rw [if_pos h5] at H
      refine n_ifF (n_q md_178 rfl) (fun e1 => of_decide_eq_true e1 h5) ?_
      exact P178_14 H hd
    · rw [if_neg h5] at H
      refine n_ifT (n_q md_178 rfl) (decide_eq_true h5) ?_
      refine g_go 1 md_178 (i1 := 17) rfl ?_
      exact P178_17 H hd

theorem md_179 : m_md 179 = m_X8_findHolder := rfl
noncomputable def f179_11 (s : g_S) (x1 : Int32) : Option ((Int32 × g_S) ⊕ (g_S)) := (if x1 < (s 199 26) then (if (s 199 28) = ((-1)) then (some (.inr (s))) else (if m_in x1 13 = true then if (s 199 29) < (s (209 + x1.toNatClampNeg) 1) then (some (.inl (x1 + 1, s))) else (g_let (g_w s 199 34 x1) fun s5 => some (.inl (x1 + 1, s5))) else none)) else (some (.inr (s))))
theorem P179_11 {d ex : Nat} {rr : m_R} {s : g_S} {x1 : Int32}   {z : ((Int32 × g_S) ⊕ (g_S))} (H : f179_11 s x1 = some z) (hd : 12 ≤ d) (K0 : ∀ S : Int32 × g_S, z = .inl S → n_R X (d + 1) 179 11 [some (.ref 199), some (.int S.1)] [] (g_M S.2 ex) rr) (Kr : ∀ q, z = .inr (q) → g_rSV q ex = rr) : n_R X (d + 1) 179 11 [some (.ref 199), some (.int x1)] [] (g_M s ex) rr := by
  unfold f179_11 at H
  refine g_go 2 md_179 (i1 := 13) rfl ?_
  refine g_getf (n_q md_179 rfl) t_199 rfl ?_
  by_cases h1 : x1 < (s 199 26)
  · rw [if_pos h1] at H
    refine n_cmpF (n_q md_179 rfl) (fun e1 => absurd (of_decide_eq_true e1) (Int32.not_le.mpr h1)) ?_
    refine g_go 1 md_179 (i1 := 16) rfl ?_
    refine g_getf (n_q md_179 rfl) t_199 rfl ?_
    refine g_go 1 md_179 (i1 := 18) rfl ?_
    by_cases h2 : (s 199 28) = ((-1))
    · rw [if_pos h2] at H
      refine n_cmpT (n_q md_179 rfl) (decide_eq_true h2) ?_
      cases H
      rw [← Kr _ rfl]
      exact n_end (n_q md_179 rfl) (fun _ => rfl)
    · rw [if_neg h2] at H
      refine n_cmpF (n_q md_179 rfl) (fun e1 => h2 (of_decide_eq_true e1)) ?_
      refine g_go 1 md_179 (i1 := 20) rfl ?_
      refine g_getr 208 (n_q md_179 rfl) t_199 rfl ?_
      refine g_go 1 md_179 (i1 := 22) rfl ?_
      obtain ⟨h3, H⟩ := g_gd H
      refine g_aald (n_q md_179 rfl) ta_208 (by decide) h3 (g_range (g_inlt h3)) ?_
      refine g_go 1 md_179 (i1 := 24) rfl ?_
      refine g_iald (n_q md_179 rfl) (te_208 (g_inlt h3)) (rfl : m_in 1 5 = true) ?_
      refine g_go 1 md_179 (i1 := 26) rfl ?_
      refine g_getf (n_q md_179 rfl) t_199 rfl ?_
      by_cases h4 : (s 199 29) < (s (209 + x1.toNatClampNeg) 1)
      · rw [if_pos h4] at H
        refine n_cmpT (n_q md_179 rfl) (decide_eq_true h4) ?_
        refine g_go 2 md_179 (i1 := 11) (ls1 := [some (.ref 199), some (.int (x1 + 1))]) rfl ?_
        cases H
        exact K0 (x1 + 1, s) rfl
      · rw [if_neg h4] at H
        refine n_cmpF (n_q md_179 rfl) (fun e1 => h4 (of_decide_eq_true e1)) ?_
        refine g_go 2 md_179 (i1 := 30) rfl ?_
        obtain ⟨s5, es5, H⟩ := g_letp H
        refine g_putf (n_q md_179 rfl) t_199 rfl rfl es5 ?_
        refine g_go 2 md_179 (i1 := 11) (ls1 := [some (.ref 199), some (.int (x1 + 1))]) rfl ?_
        cases H
        exact K0 (x1 + 1, s5) rfl
  · rw [if_neg h1] at H
    refine n_cmpT (n_q md_179 rfl) (decide_eq_true (Int32.not_lt.mp h1)) ?_
    cases H
    rw [← Kr _ rfl]
    exact n_end (n_q md_179 rfl) (fun _ => rfl)
noncomputable def f179_11L (s : g_S) (x1 : Int32) : Option (g_S) := g_run (fun S : Int32 × g_S => f179_11 S.2 S.1) (x1, s)
theorem f179_11L_eq (s : g_S) (x1 : Int32) : f179_11L s x1 = g_st (f179_11 s x1) (fun S => f179_11L S.2 S.1) := by
  unfold f179_11L
  exact g_run_eq _ _
theorem P179_11L {d ex : Nat} {s : g_S} {x1 : Int32}   {z : (g_S)} (H : f179_11L s x1 = some z) (hd : 12 ≤ d)  : n_R X (d + 1) 179 11 [some (.ref 199), some (.int x1)] [] (g_M s ex) (g_rSV z ex) := by
  unfold f179_11L at H
  refine g_rs (Q := fun S => n_R X (d + 1) 179 11 [some (.ref 199), some (.int S.1)] [] (g_M S.2 ex) (g_rSV z ex)) H ?_
  intro S w hb K0 KK
  refine P179_11 hb hd ?_ ?_
  · exact fun S1 e1 => K0 S1 e1
  · exact fun q e1 => by rw [KK q e1]
noncomputable def f179_8 (s : g_S) (y1 : Int32) : Option (g_S) := (g_let (g_w s 199 34 y1) fun s1 => f179_11L s1 1)
theorem P179_8 {d ex : Nat} {s : g_S} {y1 : Int32} {u1 : Option Value}   {z : (g_S)} (H : f179_8 s y1 = some z) (hd : 12 ≤ d)  : n_R X (d + 1) 179 8 [some (.ref 199), u1] [.int y1, .ref 199] (g_M s ex) (g_rSV z ex) := by
  unfold f179_8 at H
  obtain ⟨s1, es1, H⟩ := g_letp H
  refine g_putf (n_q md_179 rfl) t_199 rfl rfl es1 ?_
  refine g_go 2 md_179 (i1 := 11) (ls1 := [some (.ref 199), some (.int 1)]) rfl ?_
  exact P179_11L H hd
noncomputable def f179 (s : g_S) : Option (g_S) := (if (s 199 28) = ((-1)) then (f179_8 s ((-1))) else (f179_8 s 0))
theorem C179 {d ex : Nat} {s : g_S}  {z : g_S} (hd : 12 < d) (H : f179 s = some z) : n_C X d 179 [.ref 199] (g_M s ex) (g_rSV z ex) := by
  obtain ⟨d, rfl⟩ : ∃ d1, d = d1 + 1 := ⟨d - 1, by omega⟩
  replace hd := Nat.le_of_lt_succ hd
  refine ⟨Nat.le_of_ble_eq_true rfl, ?_⟩
  rw [md_179]
  show n_R X (d + 1) 179 0 [some (.ref 199), none] [] (g_M s ex) _
  unfold f179 at H
  refine g_go 2 md_179 (i1 := 2) rfl ?_
  refine g_getf (n_q md_179 rfl) t_199 rfl ?_
  refine g_go 1 md_179 (i1 := 4) rfl ?_
  by_cases h1 : (s 199 28) = ((-1))
  · rw [if_pos h1] at H
    refine n_cmpF (n_q md_179 rfl) (fun e1 => of_decide_eq_true e1 h1) ?_
    refine g_go 2 md_179 (i1 := 8) rfl ?_
    exact P179_8 H hd
  · rw [if_neg h1] at H
    refine n_cmpT (n_q md_179 rfl) (decide_eq_true h1) ?_
    refine g_go 1 md_179 (i1 := 8) rfl ?_
    exact P179_8 H hd

theorem md_180 : m_md 180 = m_X8_hasPassed := rfl
noncomputable def f180 (s : g_S) (p1 : Int32) : Option (Int32) := (if p1 = (s 199 34) then (some 0) else (if m_in p1 13 = true then if (s (209 + p1.toNatClampNeg) 4) = 0 then (some 1) else (some 0) else none))
theorem C180 {d ex : Nat} {s : g_S} {p1 : Int32}  {z : Int32} (hd : 12 < d) (H : f180 s p1 = some z) : n_C X d 180 [.ref 199, .int p1] (g_M s ex) (g_rPI s z ex) := by
  obtain ⟨d, rfl⟩ : ∃ d1, d = d1 + 1 := ⟨d - 1, by omega⟩
  replace hd := Nat.le_of_lt_succ hd
  refine ⟨Nat.le_of_ble_eq_true rfl, ?_⟩
  rw [md_180]
  show n_R X (d + 1) 180 0 [some (.ref 199), some (.int p1)] [] (g_M s ex) _
  unfold f180 at H
  refine g_go 2 md_180 (i1 := 2) rfl ?_
  refine g_getf (n_q md_180 rfl) t_199 rfl ?_
  by_cases h1 : p1 = (s 199 34)
  · rw [if_pos h1] at H
    refine n_cmpT (n_q md_180 rfl) (decide_eq_true h1) ?_
    refine g_go 1 md_180 (i1 := 14) rfl ?_
    cases H
    exact n_iret (n_q md_180 rfl) (Or.inr rfl)
  · rw [if_neg h1] at H
    refine n_cmpF (n_q md_180 rfl) (fun e1 => h1 (of_decide_eq_true e1)) ?_
    refine g_go 1 md_180 (i1 := 5) rfl ?_
    refine g_getr 208 (n_q md_180 rfl) t_199 rfl ?_
    refine g_go 1 md_180 (i1 := 7) rfl ?_
    obtain ⟨h2, H⟩ := g_gd H
    refine g_aald (n_q md_180 rfl) ta_208 (by decide) h2 (g_range (g_inlt h2)) ?_
    refine g_go 1 md_180 (i1 := 9) rfl ?_
    refine g_iald (n_q md_180 rfl) (te_208 (g_inlt h2)) (rfl : m_in 4 5 = true) ?_
    by_cases h3 : (s (209 + p1.toNatClampNeg) 4) = 0
    · rw [if_pos h3] at H
      refine n_ifF (n_q md_180 rfl) (fun e1 => of_decide_eq_true e1 h3) ?_
      refine g_go 2 md_180 (i1 := 14) rfl ?_
      cases H
      exact n_iret (n_q md_180 rfl) (Or.inr rfl)
    · rw [if_neg h3] at H
      refine n_ifT (n_q md_180 rfl) (decide_eq_true h3) ?_
      refine g_go 1 md_180 (i1 := 14) rfl ?_
      cases H
      exact n_iret (n_q md_180 rfl) (Or.inr rfl)

theorem md_181 : m_md 181 = m_X8_tellsNames := rfl
noncomputable def f181_102 (s : g_S) (p1 : Int32) (p2 : Int32) (y2 : Int32) : Option (g_S) := (g_let (g_w s 207 5 y2) fun s1 => g_let (g_w s1 207 6 (s1 199 27)) fun s2 => if m_in p1 13 = true then g_let (g_w s2 207 7 ((s2 199 29) - (s2 (209 + p1.toNatClampNeg) 1))) fun s4 => some s4 else none)
theorem P181_102 {d ex : Nat} {s : g_S} {p1 : Int32} {p2 : Int32} {y2 : Int32} {u3 : Option Value}   {z : (g_S)} (H : f181_102 s p1 p2 y2 = some z) (hd : 79 ≤ d)  : n_R X (d + 1) 181 102 [some (.ref 199), some (.int p1), some (.int p2), u3] [.int y2, .int 5, .ref 207] (g_M s ex) (g_rSV z ex) := by
  unfold f181_102 at H
  obtain ⟨s1, es1, H⟩ := g_letp H
  refine g_iast (n_q md_181 rfl) t_207 (rfl : m_in 5 8 = true) es1 ?_
  refine g_go 1 md_181 (i1 := 104) rfl ?_
  refine g_getr 207 (n_q md_181 rfl) t_199 rfl ?_
  refine g_go 2 md_181 (i1 := 107) rfl ?_
  refine g_getf (n_q md_181 rfl) t_199 rfl ?_
  obtain ⟨s2, es2, H⟩ := g_letp H
  refine g_iast (n_q md_181 rfl) t_207 (rfl : m_in 6 8 = true) es2 ?_
  refine g_go 1 md_181 (i1 := 110) rfl ?_
  refine g_getr 207 (n_q md_181 rfl) t_199 rfl ?_
  refine g_go 2 md_181 (i1 := 113) rfl ?_
  refine g_getf (n_q md_181 rfl) t_199 rfl ?_
  refine g_go 1 md_181 (i1 := 115) rfl ?_
  refine g_getr 208 (n_q md_181 rfl) t_199 rfl ?_
  refine g_go 1 md_181 (i1 := 117) rfl ?_
  obtain ⟨h3, H⟩ := g_gd H
  refine g_aald (n_q md_181 rfl) ta_208 (by decide) h3 (g_range (g_inlt h3)) ?_
  refine g_go 1 md_181 (i1 := 119) rfl ?_
  refine g_iald (n_q md_181 rfl) (te_208 (g_inlt h3)) (rfl : m_in 1 5 = true) ?_
  refine g_go 1 md_181 (i1 := 121) rfl ?_
  obtain ⟨s4, es4, H⟩ := g_letp H
  refine g_iast (n_q md_181 rfl) t_207 (rfl : m_in 7 8 = true) es4 ?_
  cases H
  exact n_end (n_q md_181 rfl) (fun _ => rfl)
noncomputable def f181_88 (s : g_S) (p1 : Int32) (p2 : Int32) (x3 : Int32) (y2 : Int32) : Option (g_S) := (g_let (g_w s 207 4 y2) fun s1 => if x3 = 0 then (f181_102 s1 p1 p2 0) else (if m_in p1 13 = true then f181_102 s1 p1 p2 (s1 (209 + p1.toNatClampNeg) 3) else none))
theorem P181_88 {d ex : Nat} {s : g_S} {p1 : Int32} {p2 : Int32} {x3 : Int32} {y2 : Int32}   {z : (g_S)} (H : f181_88 s p1 p2 x3 y2 = some z) (hd : 79 ≤ d)  : n_R X (d + 1) 181 88 [some (.ref 199), some (.int p1), some (.int p2), some (.int x3)] [.int y2, .int 4, .ref 207] (g_M s ex) (g_rSV z ex) := by
  unfold f181_88 at H
  obtain ⟨s1, es1, H⟩ := g_letp H
  refine g_iast (n_q md_181 rfl) t_207 (rfl : m_in 4 8 = true) es1 ?_
  refine g_go 1 md_181 (i1 := 90) rfl ?_
  refine g_getr 207 (n_q md_181 rfl) t_199 rfl ?_
  refine g_go 2 md_181 (i1 := 93) rfl ?_
  by_cases h2 : x3 = 0
  · rw [if_pos h2] at H
    refine n_ifT (n_q md_181 rfl) (decide_eq_true h2) ?_
    refine g_go 1 md_181 (i1 := 102) rfl ?_
    exact P181_102 H hd
  · rw [if_neg h2] at H
    refine n_ifF (n_q md_181 rfl) (fun e1 => h2 (of_decide_eq_true e1)) ?_
    refine g_go 1 md_181 (i1 := 95) rfl ?_
    refine g_getr 208 (n_q md_181 rfl) t_199 rfl ?_
    refine g_go 1 md_181 (i1 := 97) rfl ?_
    obtain ⟨h3, H⟩ := g_gd H
    refine g_aald (n_q md_181 rfl) ta_208 (by decide) h3 (g_range (g_inlt h3)) ?_
    refine g_go 1 md_181 (i1 := 99) rfl ?_
    refine g_iald (n_q md_181 rfl) (te_208 (g_inlt h3)) (rfl : m_in 3 5 = true) ?_
    refine g_go 1 md_181 (i1 := 102) rfl ?_
    exact P181_102 H hd
noncomputable def f181_77 (s : g_S) (p1 : Int32) (p2 : Int32) (x3 : Int32) (y2 : Int32) : Option (g_S) := (g_let (g_w s 207 3 y2) fun s1 => (f180 s1 p1).bind fun v2 => if v2 = 0 then (f181_88 s1 p1 p2 x3 0) else (f181_88 s1 p1 p2 x3 1))
theorem P181_77 {d ex : Nat} {s : g_S} {p1 : Int32} {p2 : Int32} {x3 : Int32} {y2 : Int32}   {z : (g_S)} (H : f181_77 s p1 p2 x3 y2 = some z) (hd : 79 ≤ d)  : n_R X (d + 1) 181 77 [some (.ref 199), some (.int p1), some (.int p2), some (.int x3)] [.int y2, .int 3, .ref 207] (g_M s ex) (g_rSV z ex) := by
  unfold f181_77 at H
  obtain ⟨s1, es1, H⟩ := g_letp H
  refine g_iast (n_q md_181 rfl) t_207 (rfl : m_in 3 8 = true) es1 ?_
  refine g_go 1 md_181 (i1 := 79) rfl ?_
  refine g_getr 207 (n_q md_181 rfl) t_199 rfl ?_
  refine g_go 3 md_181 (i1 := 83) rfl ?_
  obtain ⟨v2, hv2, H⟩ := g_bind H
  refine n_callv (n_q md_181 rfl) (As := [.ref 199, .int p1]) (rest := [.int 4, .ref 207]) rfl rfl (Nat.le_of_ble_eq_true rfl) rfl (g_recv (b := 0) rfl t_199 rfl) (C180 (by omega) hv2) ?_
  by_cases h3 : v2 = 0
  · rw [if_pos h3] at H
    refine n_ifT (n_q md_181 rfl) (decide_eq_true h3) ?_
    refine g_go 1 md_181 (i1 := 88) rfl ?_
    exact P181_88 H hd
  · rw [if_neg h3] at H
    refine n_ifF (n_q md_181 rfl) (fun e1 => h3 (of_decide_eq_true e1)) ?_
    refine g_go 2 md_181 (i1 := 88) rfl ?_
    exact P181_88 H hd
noncomputable def f181_61 (s : g_S) (p1 : Int32) (p2 : Int32) (x3 : Int32) (y2 : Int32) : Option (g_S) := (g_let (g_w s 207 2 y2) fun s1 => if m_in p1 13 = true then if (s1 (209 + p1.toNatClampNeg) 2) < (s1 199 29) then (f181_77 s1 p1 p2 x3 1) else (f181_77 s1 p1 p2 x3 0) else none)
theorem P181_61 {d ex : Nat} {s : g_S} {p1 : Int32} {p2 : Int32} {x3 : Int32} {y2 : Int32}   {z : (g_S)} (H : f181_61 s p1 p2 x3 y2 = some z) (hd : 79 ≤ d)  : n_R X (d + 1) 181 61 [some (.ref 199), some (.int p1), some (.int p2), some (.int x3)] [.int y2, .int 2, .ref 207] (g_M s ex) (g_rSV z ex) := by
  unfold f181_61 at H
  obtain ⟨s1, es1, H⟩ := g_letp H
  refine g_iast (n_q md_181 rfl) t_207 (rfl : m_in 2 8 = true) es1 ?_
  refine g_go 1 md_181 (i1 := 63) rfl ?_
  refine g_getr 207 (n_q md_181 rfl) t_199 rfl ?_
  refine g_go 2 md_181 (i1 := 66) rfl ?_
  refine g_getf (n_q md_181 rfl) t_199 rfl ?_
  refine g_go 1 md_181 (i1 := 68) rfl ?_
  refine g_getr 208 (n_q md_181 rfl) t_199 rfl ?_
  refine g_go 1 md_181 (i1 := 70) rfl ?_
  obtain ⟨h2, H⟩ := g_gd H
  refine g_aald (n_q md_181 rfl) ta_208 (by decide) h2 (g_range (g_inlt h2)) ?_
  refine g_go 1 md_181 (i1 := 72) rfl ?_
  refine g_iald (n_q md_181 rfl) (te_208 (g_inlt h2)) (rfl : m_in 2 5 = true) ?_
  by_cases h3 : (s1 (209 + p1.toNatClampNeg) 2) < (s1 199 29)
  · rw [if_pos h3] at H
    refine n_cmpF (n_q md_181 rfl) (fun e1 => absurd (of_decide_eq_true e1) (Int32.not_le.mpr h3)) ?_
    refine g_go 2 md_181 (i1 := 77) rfl ?_
    exact P181_77 H hd
  · rw [if_neg h3] at H
    refine n_cmpT (n_q md_181 rfl) (decide_eq_true (Int32.not_lt.mp h3)) ?_
    refine g_go 1 md_181 (i1 := 77) rfl ?_
    exact P181_77 H hd
noncomputable def f181_47 (s : g_S) (p1 : Int32) (p2 : Int32) (x3 : Int32) (y2 : Int32) : Option (g_S) := (g_let (g_w s 207 1 y2) fun s1 => if m_in p1 13 = true then if (s1 (225 + p1.toNatClampNeg) 2) = 0 then (f181_61 s1 p1 p2 x3 0) else (f181_61 s1 p1 p2 x3 1) else none)
theorem P181_47 {d ex : Nat} {s : g_S} {p1 : Int32} {p2 : Int32} {x3 : Int32} {y2 : Int32}   {z : (g_S)} (H : f181_47 s p1 p2 x3 y2 = some z) (hd : 79 ≤ d)  : n_R X (d + 1) 181 47 [some (.ref 199), some (.int p1), some (.int p2), some (.int x3)] [.int y2, .int 1, .ref 207] (g_M s ex) (g_rSV z ex) := by
  unfold f181_47 at H
  obtain ⟨s1, es1, H⟩ := g_letp H
  refine g_iast (n_q md_181 rfl) t_207 (rfl : m_in 1 8 = true) es1 ?_
  refine g_go 1 md_181 (i1 := 49) rfl ?_
  refine g_getr 207 (n_q md_181 rfl) t_199 rfl ?_
  refine g_go 2 md_181 (i1 := 52) rfl ?_
  refine g_getr 224 (n_q md_181 rfl) t_199 rfl ?_
  refine g_go 1 md_181 (i1 := 54) rfl ?_
  obtain ⟨h2, H⟩ := g_gd H
  refine g_aald (n_q md_181 rfl) ta_224 (by decide) h2 (g_range (g_inlt h2)) ?_
  refine g_go 1 md_181 (i1 := 56) rfl ?_
  refine g_bald (n_q md_181 rfl) (te_224 (g_inlt h2)) (rfl : m_in 2 4 = true) ?_
  by_cases h3 : (s1 (225 + p1.toNatClampNeg) 2) = 0
  · rw [if_pos h3] at H
    refine n_ifT (n_q md_181 rfl) (decide_eq_true h3) ?_
    refine g_go 1 md_181 (i1 := 61) rfl ?_
    exact P181_61 H hd
  · rw [if_neg h3] at H
    refine n_ifF (n_q md_181 rfl) (fun e1 => h3 (of_decide_eq_true e1)) ?_
    refine g_go 2 md_181 (i1 := 61) rfl ?_
    exact P181_61 H hd
noncomputable def f181_33 (s : g_S) (p1 : Int32) (p2 : Int32) (x3 : Int32) (y2 : Int32) : Option (g_S) := (g_let (g_w s 207 0 y2) fun s1 => if m_in p1 13 = true then if (s1 (225 + p1.toNatClampNeg) 1) = 0 then (f181_47 s1 p1 p2 x3 0) else (f181_47 s1 p1 p2 x3 1) else none)
theorem P181_33 {d ex : Nat} {s : g_S} {p1 : Int32} {p2 : Int32} {x3 : Int32} {y2 : Int32}   {z : (g_S)} (H : f181_33 s p1 p2 x3 y2 = some z) (hd : 79 ≤ d)  : n_R X (d + 1) 181 33 [some (.ref 199), some (.int p1), some (.int p2), some (.int x3)] [.int y2, .int 0, .ref 207] (g_M s ex) (g_rSV z ex) := by
  unfold f181_33 at H
  obtain ⟨s1, es1, H⟩ := g_letp H
  refine g_iast (n_q md_181 rfl) t_207 (rfl : m_in 0 8 = true) es1 ?_
  refine g_go 1 md_181 (i1 := 35) rfl ?_
  refine g_getr 207 (n_q md_181 rfl) t_199 rfl ?_
  refine g_go 2 md_181 (i1 := 38) rfl ?_
  refine g_getr 224 (n_q md_181 rfl) t_199 rfl ?_
  refine g_go 1 md_181 (i1 := 40) rfl ?_
  obtain ⟨h2, H⟩ := g_gd H
  refine g_aald (n_q md_181 rfl) ta_224 (by decide) h2 (g_range (g_inlt h2)) ?_
  refine g_go 1 md_181 (i1 := 42) rfl ?_
  refine g_bald (n_q md_181 rfl) (te_224 (g_inlt h2)) (rfl : m_in 1 4 = true) ?_
  by_cases h3 : (s1 (225 + p1.toNatClampNeg) 1) = 0
  · rw [if_pos h3] at H
    refine n_ifT (n_q md_181 rfl) (decide_eq_true h3) ?_
    refine g_go 1 md_181 (i1 := 47) rfl ?_
    exact P181_47 H hd
  · rw [if_neg h3] at H
    refine n_ifF (n_q md_181 rfl) (fun e1 => h3 (of_decide_eq_true e1)) ?_
    refine g_go 2 md_181 (i1 := 47) rfl ?_
    exact P181_47 H hd
noncomputable def f181 (s : g_S) (p1 : Int32) (p2 : Int32) : Option (g_S) := (if m_in p1 13 = true then (f168 s p2 (s (209 + p1.toNatClampNeg) 0) (s 199 28) (s (209 + p1.toNatClampNeg) 3)).bind fun s3 => if (s3 (225 + p1.toNatClampNeg) 0) = 0 then (f181_33 s3 p1 p2 (s3 199 24) 0) else (f181_33 s3 p1 p2 (s3 199 24) 1) else none)
theorem C181 {d ex : Nat} {s : g_S} {p1 : Int32} {p2 : Int32}  {z : g_S} (hd : 79 < d) (H : f181 s p1 p2 = some z) : n_C X d 181 [.ref 199, .int p1, .int p2] (g_M s ex) (g_rSV z ex) := by
  obtain ⟨d, rfl⟩ : ∃ d1, d = d1 + 1 := ⟨d - 1, by omega⟩
  replace hd := Nat.le_of_lt_succ hd
  refine ⟨Nat.le_of_ble_eq_true rfl, ?_⟩
  rw [md_181]
  show n_R X (d + 1) 181 0 [some (.ref 199), some (.int p1), some (.int p2), none] [] (g_M s ex) _
  unfold f181 at H
  refine g_go 3 md_181 (i1 := 3) rfl ?_
  refine g_getr 208 (n_q md_181 rfl) t_199 rfl ?_
  refine g_go 1 md_181 (i1 := 5) rfl ?_
  obtain ⟨h1, H⟩ := g_gd H
  refine g_aald (n_q md_181 rfl) ta_208 (by decide) h1 (g_range (g_inlt h1)) ?_
  refine g_go 1 md_181 (i1 := 7) rfl ?_
  refine g_iald (n_q md_181 rfl) (te_208 (g_inlt h1)) (rfl : m_in 0 5 = true) ?_
  refine g_go 1 md_181 (i1 := 9) rfl ?_
  refine g_getf (n_q md_181 rfl) t_199 rfl ?_
  refine g_go 1 md_181 (i1 := 11) rfl ?_
  refine g_getr 208 (n_q md_181 rfl) t_199 rfl ?_
  refine g_go 1 md_181 (i1 := 13) rfl ?_
  refine g_aald (n_q md_181 rfl) ta_208 (by decide) h1 (g_range (g_inlt h1)) ?_
  refine g_go 1 md_181 (i1 := 15) rfl ?_
  refine g_iald (n_q md_181 rfl) (te_208 (g_inlt h1)) (rfl : m_in 3 5 = true) ?_
  obtain ⟨s3, hs3, H⟩ := g_bind H
  refine n_call (n_q md_181 rfl) (As := [.ref 199, .int p2, .int (s (209 + p1.toNatClampNeg) 0), .int (s 199 28), .int (s (209 + p1.toNatClampNeg) 3)]) (rest := []) rfl rfl (Nat.le_of_ble_eq_true rfl) rfl (g_recv (b := 0) rfl t_199 rfl) (C168 (by omega) hs3) ?_
  refine g_go 1 md_181 (i1 := 18) rfl ?_
  refine g_getf (n_q md_181 rfl) t_199 rfl ?_
  refine g_go 2 md_181 (i1 := 21) (ls1 := [some (.ref 199), some (.int p1), some (.int p2), some (.int (s3 199 24))]) rfl ?_
  refine g_getr 207 (n_q md_181 rfl) t_199 rfl ?_
  refine g_go 2 md_181 (i1 := 24) rfl ?_
  refine g_getr 224 (n_q md_181 rfl) t_199 rfl ?_
  refine g_go 1 md_181 (i1 := 26) rfl ?_
  refine g_aald (n_q md_181 rfl) ta_224 (by decide) h1 (g_range (g_inlt h1)) ?_
  refine g_go 1 md_181 (i1 := 28) rfl ?_
  refine g_bald (n_q md_181 rfl) (te_224 (g_inlt h1)) (rfl : m_in 0 4 = true) ?_
  by_cases h4 : (s3 (225 + p1.toNatClampNeg) 0) = 0
  · rw [if_pos h4] at H
    refine n_ifT (n_q md_181 rfl) (decide_eq_true h4) ?_
    refine g_go 1 md_181 (i1 := 33) rfl ?_
    exact P181_33 H hd
  · rw [if_neg h4] at H
    refine n_ifF (n_q md_181 rfl) (fun e1 => h4 (of_decide_eq_true e1)) ?_
    refine g_go 2 md_181 (i1 := 33) rfl ?_
    exact P181_33 H hd

theorem md_182 : m_md 182 = m_X8_ends := rfl
noncomputable def f182_247 (s : g_S) (p1 : Int32) (x2 : Int32) : Option (g_S) := (g_let (g_w s 242 0 x2) fun s1 => some s1)
theorem P182_247 {d ex : Nat} {s : g_S} {p1 : Int32} {x2 : Int32} {u3 : Option Value}   {z : (g_S)} (H : f182_247 s p1 x2 = some z) (hd : 80 ≤ d)  : n_R X (d + 1) 182 247 [some (.ref 199), some (.int p1), some (.int x2), u3] [] (g_M s ex) (g_rSV z ex) := by
  unfold f182_247 at H
  refine g_go 1 md_182 (i1 := 248) rfl ?_
  refine g_getr 242 (n_q md_182 rfl) t_199 rfl ?_
  refine g_go 2 md_182 (i1 := 251) rfl ?_
  obtain ⟨s1, es1, H⟩ := g_letp H
  refine g_iast (n_q md_182 rfl) t_242 (rfl : m_in 0 13 = true) es1 ?_
  cases H
  exact n_end (n_q md_182 rfl) (fun _ => rfl)
noncomputable def f182_228 (s : g_S) (p1 : Int32) (x2 : Int32) (x3 : Int32) : Option ((Int32 × g_S) ⊕ (g_S)) := (if (s 199 34) < x3 then (Option.map (fun w => (.inr (w) : ((Int32 × g_S) ⊕ (g_S)))) (f182_247 s p1 x2)) else (if m_in x3 13 = true then g_let (g_w s 242 x3.toNatClampNeg ((s 240 x3.toNatClampNeg) - (s 241 x3.toNatClampNeg))) fun s3 => some (.inl (x3 + 1, s3)) else none))
theorem P182_228 {d ex : Nat} {rr : m_R} {s : g_S} {p1 : Int32} {x2 : Int32} {x3 : Int32}   {z : ((Int32 × g_S) ⊕ (g_S))} (H : f182_228 s p1 x2 x3 = some z) (hd : 80 ≤ d) (K0 : ∀ S : Int32 × g_S, z = .inl S → n_R X (d + 1) 182 228 [some (.ref 199), some (.int p1), some (.int x2), some (.int S.1)] [] (g_M S.2 ex) rr) (Kr : ∀ q, z = .inr (q) → g_rSV q ex = rr) : n_R X (d + 1) 182 228 [some (.ref 199), some (.int p1), some (.int x2), some (.int x3)] [] (g_M s ex) rr := by
  unfold f182_228 at H
  refine g_go 2 md_182 (i1 := 230) rfl ?_
  refine g_getf (n_q md_182 rfl) t_199 rfl ?_
  by_cases h1 : (s 199 34) < x3
  · rw [if_pos h1] at H
    refine n_cmpT (n_q md_182 rfl) (decide_eq_true h1) ?_
    obtain ⟨w, hw, H⟩ := g_mapp H
    subst H
    rw [← Kr _ rfl]
    exact P182_247 hw hd
  · rw [if_neg h1] at H
    refine n_cmpF (n_q md_182 rfl) (fun e1 => h1 (of_decide_eq_true e1)) ?_
    refine g_go 1 md_182 (i1 := 233) rfl ?_
    refine g_getr 242 (n_q md_182 rfl) t_199 rfl ?_
    refine g_go 2 md_182 (i1 := 236) rfl ?_
    refine g_getr 240 (n_q md_182 rfl) t_199 rfl ?_
    refine g_go 1 md_182 (i1 := 238) rfl ?_
    obtain ⟨h2, H⟩ := g_gd H
    refine g_iald (n_q md_182 rfl) t_240 h2 ?_
    refine g_go 1 md_182 (i1 := 240) rfl ?_
    refine g_getr 241 (n_q md_182 rfl) t_199 rfl ?_
    refine g_go 1 md_182 (i1 := 242) rfl ?_
    refine g_iald (n_q md_182 rfl) t_241 h2 ?_
    refine g_go 1 md_182 (i1 := 244) rfl ?_
    obtain ⟨s3, es3, H⟩ := g_letp H
    refine g_iast (n_q md_182 rfl) t_242 h2 es3 ?_
    refine g_go 2 md_182 (i1 := 228) (ls1 := [some (.ref 199), some (.int p1), some (.int x2), some (.int (x3 + 1))]) rfl ?_
    cases H
    exact K0 (x3 + 1, s3) rfl
noncomputable def f182_228L (s : g_S) (p1 : Int32) (x2 : Int32) (x3 : Int32) : Option (g_S) := g_run (fun S : Int32 × g_S => f182_228 S.2 p1 x2 S.1) (x3, s)
theorem f182_228L_eq (s : g_S) (p1 : Int32) (x2 : Int32) (x3 : Int32) : f182_228L s p1 x2 x3 = g_st (f182_228 s p1 x2 x3) (fun S => f182_228L S.2 p1 x2 S.1) := by
  unfold f182_228L
  exact g_run_eq _ _
theorem P182_228L {d ex : Nat} {s : g_S} {p1 : Int32} {x2 : Int32} {x3 : Int32}   {z : (g_S)} (H : f182_228L s p1 x2 x3 = some z) (hd : 80 ≤ d)  : n_R X (d + 1) 182 228 [some (.ref 199), some (.int p1), some (.int x2), some (.int x3)] [] (g_M s ex) (g_rSV z ex) := by
  unfold f182_228L at H
  refine g_rs (Q := fun S => n_R X (d + 1) 182 228 [some (.ref 199), some (.int p1), some (.int x2), some (.int S.1)] [] (g_M S.2 ex) (g_rSV z ex)) H ?_
  intro S w hb K0 KK
  refine P182_228 hb hd ?_ ?_
  · exact fun S1 e1 => K0 S1 e1
  · exact fun q e1 => by rw [KK q e1]
noncomputable def f182_197 (s : g_S) (p1 : Int32) (x2 : Int32) (x3 : Int32) : Option ((Int32 × Int32 × g_S) ⊕ (g_S)) := (if (s 199 34) < x3 then (Option.map (fun w => (.inr (w) : ((Int32 × Int32 × g_S) ⊕ (g_S)))) (f182_228L s p1 x2 1)) else (if m_in x3 13 = true then if 0 < (s 239 x3.toNatClampNeg) then (some (.inl (x2, (x3 + 1, s)))) else ((f136 s (s 240 x3.toNatClampNeg) x2).bind fun v4 => g_let (g_w s 240 x3.toNatClampNeg v4) fun s5 => some (.inl (x2 - (s5 240 x3.toNatClampNeg), (x3 + 1, s5)))) else none))
theorem P182_197 {d ex : Nat} {rr : m_R} {s : g_S} {p1 : Int32} {x2 : Int32} {x3 : Int32}   {z : ((Int32 × Int32 × g_S) ⊕ (g_S))} (H : f182_197 s p1 x2 x3 = some z) (hd : 80 ≤ d) (K0 : ∀ S : Int32 × Int32 × g_S, z = .inl S → n_R X (d + 1) 182 197 [some (.ref 199), some (.int p1), some (.int S.1), some (.int S.2.1)] [] (g_M S.2.2 ex) rr) (Kr : ∀ q, z = .inr (q) → g_rSV q ex = rr) : n_R X (d + 1) 182 197 [some (.ref 199), some (.int p1), some (.int x2), some (.int x3)] [] (g_M s ex) rr := by
  unfold f182_197 at H
  refine g_go 2 md_182 (i1 := 199) rfl ?_
  refine g_getf (n_q md_182 rfl) t_199 rfl ?_
  by_cases h1 : (s 199 34) < x3
  · rw [if_pos h1] at H
    refine n_cmpT (n_q md_182 rfl) (decide_eq_true h1) ?_
    refine g_go 2 md_182 (i1 := 228) (ls1 := [some (.ref 199), some (.int p1), some (.int x2), some (.int 1)]) rfl ?_
    obtain ⟨w, hw, H⟩ := g_mapp H
    subst H
    rw [← Kr _ rfl]
    exact P182_228L hw hd
  · rw [if_neg h1] at H
    refine n_cmpF (n_q md_182 rfl) (fun e1 => h1 (of_decide_eq_true e1)) ?_
    refine g_go 1 md_182 (i1 := 202) rfl ?_
    refine g_getr 239 (n_q md_182 rfl) t_199 rfl ?_
    refine g_go 1 md_182 (i1 := 204) rfl ?_
    obtain ⟨h2, H⟩ := g_gd H
    refine g_iald (n_q md_182 rfl) t_239 h2 ?_
    by_cases h3 : 0 < (s 239 x3.toNatClampNeg)
    · rw [if_pos h3] at H
      refine n_ifF (n_q md_182 rfl) (fun e1 => absurd (of_decide_eq_true e1) (Int32.not_le.mpr h3)) ?_
      refine g_go 3 md_182 (i1 := 197) (ls1 := [some (.ref 199), some (.int p1), some (.int x2), some (.int (x3 + 1))]) rfl ?_
      cases H
      exact K0 (x2, (x3 + 1, s)) rfl
    · rw [if_neg h3] at H
      refine n_ifT (n_q md_182 rfl) (decide_eq_true (Int32.not_lt.mp h3)) ?_
      refine g_go 1 md_182 (i1 := 208) rfl ?_
      refine g_getr 240 (n_q md_182 rfl) t_199 rfl ?_
      refine g_go 2 md_182 (i1 := 211) rfl ?_
      refine g_getr 240 (n_q md_182 rfl) t_199 rfl ?_
      refine g_go 1 md_182 (i1 := 213) rfl ?_
      refine g_iald (n_q md_182 rfl) t_240 h2 ?_
      refine g_go 1 md_182 (i1 := 215) rfl ?_
      obtain ⟨v4, hv4, H⟩ := g_bind H
      refine n_callv (n_q md_182 rfl) (As := [.int (s 240 x3.toNatClampNeg), .int x2]) (rest := [.int x3, .ref 240]) rfl rfl (Nat.le_of_ble_eq_true rfl) rfl rfl (C136 (by omega) hv4) ?_
      obtain ⟨s5, es5, H⟩ := g_letp H
      refine g_iast (n_q md_182 rfl) t_240 h2 es5 ?_
      refine g_go 2 md_182 (i1 := 219) rfl ?_
      refine g_getr 240 (n_q md_182 rfl) t_199 rfl ?_
      refine g_go 1 md_182 (i1 := 221) rfl ?_
      refine g_iald (n_q md_182 rfl) t_240 h2 ?_
      refine g_go 4 md_182 (i1 := 197) (ls1 := [some (.ref 199), some (.int p1), some (.int (x2 - (s5 240 x3.toNatClampNeg))), some (.int (x3 + 1))]) rfl ?_
      cases H
      exact K0 (x2 - (s5 240 x3.toNatClampNeg), (x3 + 1, s5)) rfl
noncomputable def f182_197L (s : g_S) (p1 : Int32) (x2 : Int32) (x3 : Int32) : Option (g_S) := g_run (fun S : Int32 × Int32 × g_S => f182_197 S.2.2 p1 S.1 S.2.1) (x2, (x3, s))
theorem f182_197L_eq (s : g_S) (p1 : Int32) (x2 : Int32) (x3 : Int32) : f182_197L s p1 x2 x3 = g_st (f182_197 s p1 x2 x3) (fun S => f182_197L S.2.2 p1 S.1 S.2.1) := by
  unfold f182_197L
  exact g_run_eq _ _
theorem P182_197L {d ex : Nat} {s : g_S} {p1 : Int32} {x2 : Int32} {x3 : Int32}   {z : (g_S)} (H : f182_197L s p1 x2 x3 = some z) (hd : 80 ≤ d)  : n_R X (d + 1) 182 197 [some (.ref 199), some (.int p1), some (.int x2), some (.int x3)] [] (g_M s ex) (g_rSV z ex) := by
  unfold f182_197L at H
  refine g_rs (Q := fun S => n_R X (d + 1) 182 197 [some (.ref 199), some (.int p1), some (.int S.1), some (.int S.2.1)] [] (g_M S.2.2 ex) (g_rSV z ex)) H ?_
  intro S w hb K0 KK
  refine P182_197 hb hd ?_ ?_
  · exact fun S1 e1 => K0 S1 e1
  · exact fun q e1 => by rw [KK q e1]
noncomputable def f182_151 (s : g_S) (p1 : Int32) (x2 : Int32) : Option ((Int32 × g_S) ⊕ (g_S)) := (if 0 < x2 then (if m_in x2 13 = true then (f136 s (s 238 x2.toNatClampNeg) ((s 222 x2.toNatClampNeg) + (s 241 x2.toNatClampNeg))).bind fun v3 => g_let (g_w s 240 x2.toNatClampNeg v3) fun s4 => if 0 < (s4 239 x2.toNatClampNeg) then (if m_in (s4 239 x2.toNatClampNeg) 13 = true then g_let (g_w s4 241 (s4 239 x2.toNatClampNeg).toNatClampNeg ((s4 241 (s4 239 x2.toNatClampNeg).toNatClampNeg) + (s4 240 x2.toNatClampNeg))) fun s7 => some (.inl (x2 + (-1), s7)) else none) else (some (.inl (x2 + (-1), s4))) else none) else (Option.map (fun w => (.inr (w) : ((Int32 × g_S) ⊕ (g_S)))) (f182_197L s p1 (s 199 27) 1)))
theorem P182_151 {d ex : Nat} {rr : m_R} {s : g_S} {p1 : Int32} {x2 : Int32} {u3 : Option Value}   {z : ((Int32 × g_S) ⊕ (g_S))} (H : f182_151 s p1 x2 = some z) (hd : 80 ≤ d) (K0 : ∀ S : Int32 × g_S, z = .inl S → ∀ u3 : Option Value, n_R X (d + 1) 182 151 [some (.ref 199), some (.int p1), some (.int S.1), u3] [] (g_M S.2 ex) rr) (Kr : ∀ q, z = .inr (q) → g_rSV q ex = rr) : n_R X (d + 1) 182 151 [some (.ref 199), some (.int p1), some (.int x2), u3] [] (g_M s ex) rr := by
  unfold f182_151 at H
  refine g_go 1 md_182 (i1 := 152) rfl ?_
  by_cases h1 : 0 < x2
  · rw [if_pos h1] at H
    refine n_ifF (n_q md_182 rfl) (fun e1 => absurd (of_decide_eq_true e1) (Int32.not_le.mpr h1)) ?_
    refine g_go 1 md_182 (i1 := 154) rfl ?_
    refine g_getr 240 (n_q md_182 rfl) t_199 rfl ?_
    refine g_go 2 md_182 (i1 := 157) rfl ?_
    refine g_getr 238 (n_q md_182 rfl) t_199 rfl ?_
    refine g_go 1 md_182 (i1 := 159) rfl ?_
    obtain ⟨h2, H⟩ := g_gd H
    refine g_iald (n_q md_182 rfl) t_238 h2 ?_
    refine g_go 1 md_182 (i1 := 161) rfl ?_
    refine g_getr 222 (n_q md_182 rfl) t_199 rfl ?_
    refine g_go 1 md_182 (i1 := 163) rfl ?_
    refine g_iald (n_q md_182 rfl) t_222 h2 ?_
    refine g_go 1 md_182 (i1 := 165) rfl ?_
    refine g_getr 241 (n_q md_182 rfl) t_199 rfl ?_
    refine g_go 1 md_182 (i1 := 167) rfl ?_
    refine g_iald (n_q md_182 rfl) t_241 h2 ?_
    refine g_go 1 md_182 (i1 := 169) rfl ?_
    obtain ⟨v3, hv3, H⟩ := g_bind H
    refine n_callv (n_q md_182 rfl) (As := [.int (s 238 x2.toNatClampNeg), .int ((s 222 x2.toNatClampNeg) + (s 241 x2.toNatClampNeg))]) (rest := [.int x2, .ref 240]) rfl rfl (Nat.le_of_ble_eq_true rfl) rfl rfl (C136 (by omega) hv3) ?_
    obtain ⟨s4, es4, H⟩ := g_letp H
    refine g_iast (n_q md_182 rfl) t_240 h2 es4 ?_
    refine g_go 1 md_182 (i1 := 172) rfl ?_
    refine g_getr 239 (n_q md_182 rfl) t_199 rfl ?_
    refine g_go 1 md_182 (i1 := 174) rfl ?_
    refine g_iald (n_q md_182 rfl) t_239 h2 ?_
    by_cases h5 : 0 < (s4 239 x2.toNatClampNeg)
    · rw [if_pos h5] at H
      refine n_ifF (n_q md_182 rfl) (fun e1 => absurd (of_decide_eq_true e1) (Int32.not_le.mpr h5)) ?_
      refine g_go 1 md_182 (i1 := 177) rfl ?_
      refine g_getr 241 (n_q md_182 rfl) t_199 rfl ?_
      refine g_go 1 md_182 (i1 := 179) rfl ?_
      refine g_getr 239 (n_q md_182 rfl) t_199 rfl ?_
      refine g_go 1 md_182 (i1 := 181) rfl ?_
      refine g_iald (n_q md_182 rfl) t_239 h2 ?_
      refine g_go 1 md_182 (i1 := 183) rfl ?_
      obtain ⟨h6, H⟩ := g_gd H
      refine g_iald (n_q md_182 rfl) t_241 h6 ?_
      refine g_go 1 md_182 (i1 := 185) rfl ?_
      refine g_getr 240 (n_q md_182 rfl) t_199 rfl ?_
      refine g_go 1 md_182 (i1 := 187) rfl ?_
      refine g_iald (n_q md_182 rfl) t_240 h2 ?_
      refine g_go 1 md_182 (i1 := 189) rfl ?_
      obtain ⟨s7, es7, H⟩ := g_letp H
      refine g_iast (n_q md_182 rfl) t_241 h6 es7 ?_
      refine g_go 2 md_182 (i1 := 151) (ls1 := [some (.ref 199), some (.int p1), some (.int (x2 + (-1))), u3]) rfl ?_
      cases H
      exact K0 (x2 + (-1), s7) rfl _
    · rw [if_neg h5] at H
      refine n_ifT (n_q md_182 rfl) (decide_eq_true (Int32.not_lt.mp h5)) ?_
      refine g_go 2 md_182 (i1 := 151) (ls1 := [some (.ref 199), some (.int p1), some (.int (x2 + (-1))), u3]) rfl ?_
      cases H
      exact K0 (x2 + (-1), s4) rfl _
  · rw [if_neg h1] at H
    refine n_ifT (n_q md_182 rfl) (decide_eq_true (Int32.not_lt.mp h1)) ?_
    refine g_go 1 md_182 (i1 := 193) rfl ?_
    refine g_getf (n_q md_182 rfl) t_199 rfl ?_
    refine g_go 3 md_182 (i1 := 197) (ls1 := [some (.ref 199), some (.int p1), some (.int (s 199 27)), some (.int 1)]) rfl ?_
    obtain ⟨w, hw, H⟩ := g_mapp H
    subst H
    rw [← Kr _ rfl]
    exact P182_197L hw hd
noncomputable def f182_151L (s : g_S) (p1 : Int32) (x2 : Int32) : Option (g_S) := g_run (fun S : Int32 × g_S => f182_151 S.2 p1 S.1) (x2, s)
theorem f182_151L_eq (s : g_S) (p1 : Int32) (x2 : Int32) : f182_151L s p1 x2 = g_st (f182_151 s p1 x2) (fun S => f182_151L S.2 p1 S.1) := by
  unfold f182_151L
  exact g_run_eq _ _
theorem P182_151L {d ex : Nat} {s : g_S} {p1 : Int32} {x2 : Int32} {u3 : Option Value}   {z : (g_S)} (H : f182_151L s p1 x2 = some z) (hd : 80 ≤ d)  : n_R X (d + 1) 182 151 [some (.ref 199), some (.int p1), some (.int x2), u3] [] (g_M s ex) (g_rSV z ex) := by
  unfold f182_151L at H
  refine g_rs (Q := fun S => ∀ u3 : Option Value, n_R X (d + 1) 182 151 [some (.ref 199), some (.int p1), some (.int S.1), u3] [] (g_M S.2 ex) (g_rSV z ex)) H ?_ u3
  intro S w hb K0 KK u3
  refine P182_151 hb hd ?_ ?_
  · exact fun S1 e1 => K0 S1 e1
  · exact fun q e1 => by rw [KK q e1]
noncomputable def f182_145 (s : g_S) (p1 : Int32) (x2 : Int32) (y1 : Int32) (y2 : Int32) : Option ((Int32 × g_S) ⊕ (g_S)) := (if m_in y1 13 = true then g_let (g_w s 239 y1.toNatClampNeg y2) fun s2 => some (.inl (x2 + 1, s2)) else none)
theorem P182_145 {d ex : Nat} {rr : m_R} {s : g_S} {p1 : Int32} {x2 : Int32} {y1 : Int32} {y2 : Int32} {u3 : Option Value}   {z : ((Int32 × g_S) ⊕ (g_S))} (H : f182_145 s p1 x2 y1 y2 = some z) (hd : 80 ≤ d) (K0 : ∀ S : Int32 × g_S, z = .inl S → ∀ u3 : Option Value, n_R X (d + 1) 182 51 [some (.ref 199), some (.int p1), some (.int S.1), u3] [] (g_M S.2 ex) rr) (Kr : ∀ q, z = .inr (q) → g_rSV q ex = rr) : n_R X (d + 1) 182 145 [some (.ref 199), some (.int p1), some (.int x2), u3] [.int y2, .int y1, .ref 239] (g_M s ex) rr := by
  unfold f182_145 at H
  obtain ⟨h1, H⟩ := g_gd H
  obtain ⟨s2, es2, H⟩ := g_letp H
  refine g_iast (n_q md_182 rfl) t_239 h1 es2 ?_
  refine g_go 2 md_182 (i1 := 51) (ls1 := [some (.ref 199), some (.int p1), some (.int (x2 + 1)), u3]) rfl ?_
  cases H
  exact K0 (x2 + 1, s2) rfl _
noncomputable def f182_142 (s : g_S) (p1 : Int32) (x2 : Int32) (y1 : Int32) : Option ((Int32 × g_S) ⊕ (g_S)) := (f182_145 s p1 x2 y1 (x2 - 1))
theorem P182_142 {d ex : Nat} {rr : m_R} {s : g_S} {p1 : Int32} {x2 : Int32} {y1 : Int32} {u3 : Option Value}   {z : ((Int32 × g_S) ⊕ (g_S))} (H : f182_142 s p1 x2 y1 = some z) (hd : 80 ≤ d) (K0 : ∀ S : Int32 × g_S, z = .inl S → ∀ u3 : Option Value, n_R X (d + 1) 182 51 [some (.ref 199), some (.int p1), some (.int S.1), u3] [] (g_M S.2 ex) rr) (Kr : ∀ q, z = .inr (q) → g_rSV q ex = rr) : n_R X (d + 1) 182 142 [some (.ref 199), some (.int p1), some (.int x2), u3] [.int y1, .ref 239] (g_M s ex) rr := by
  unfold f182_142 at H
  refine g_go 3 md_182 (i1 := 145) rfl ?_
  exact P182_145 H hd K0 Kr
noncomputable def f182_127 (s : g_S) (p1 : Int32) (x2 : Int32) (y1 : Int32) (y2 : Int32) : Option ((Int32 × g_S) ⊕ (g_S)) := (if m_in y1 13 = true then g_let (g_w s 238 y1.toNatClampNeg y2) fun s2 => if 1 < x2 then ((f180 s2 (x2 - 1)).bind fun v4 => if v4 = 0 then (f182_142 s2 p1 x2 x2) else (f182_145 s2 p1 x2 x2 0)) else (f182_142 s2 p1 x2 x2) else none)
theorem P182_127 {d ex : Nat} {rr : m_R} {s : g_S} {p1 : Int32} {x2 : Int32} {y1 : Int32} {y2 : Int32} {u3 : Option Value}   {z : ((Int32 × g_S) ⊕ (g_S))} (H : f182_127 s p1 x2 y1 y2 = some z) (hd : 80 ≤ d) (K0 : ∀ S : Int32 × g_S, z = .inl S → ∀ u3 : Option Value, n_R X (d + 1) 182 51 [some (.ref 199), some (.int p1), some (.int S.1), u3] [] (g_M S.2 ex) rr) (Kr : ∀ q, z = .inr (q) → g_rSV q ex = rr) : n_R X (d + 1) 182 127 [some (.ref 199), some (.int p1), some (.int x2), u3] [.int y2, .int y1, .ref 238] (g_M s ex) rr := by
  unfold f182_127 at H
  obtain ⟨h1, H⟩ := g_gd H
  obtain ⟨s2, es2, H⟩ := g_letp H
  refine g_iast (n_q md_182 rfl) t_238 h1 es2 ?_
  refine g_go 1 md_182 (i1 := 129) rfl ?_
  refine g_getr 239 (n_q md_182 rfl) t_199 rfl ?_
  refine g_go 3 md_182 (i1 := 133) rfl ?_
  by_cases h3 : 1 < x2
  · rw [if_pos h3] at H
    refine n_cmpF (n_q md_182 rfl) (fun e1 => absurd (of_decide_eq_true e1) (Int32.not_le.mpr h3)) ?_
    refine g_go 4 md_182 (i1 := 138) rfl ?_
    obtain ⟨v4, hv4, H⟩ := g_bind H
    refine n_callv (n_q md_182 rfl) (As := [.ref 199, .int (x2 - 1)]) (rest := [.int x2, .ref 239]) rfl rfl (Nat.le_of_ble_eq_true rfl) rfl (g_recv (b := 0) rfl t_199 rfl) (C180 (by omega) hv4) ?_
    by_cases h5 : v4 = 0
    · rw [if_pos h5] at H
      refine n_ifT (n_q md_182 rfl) (decide_eq_true h5) ?_
      exact P182_142 H hd K0 Kr
    · rw [if_neg h5] at H
      refine n_ifF (n_q md_182 rfl) (fun e1 => h5 (of_decide_eq_true e1)) ?_
      refine g_go 2 md_182 (i1 := 145) rfl ?_
      exact P182_145 H hd K0 Kr
  · rw [if_neg h3] at H
    refine n_cmpT (n_q md_182 rfl) (decide_eq_true (Int32.not_lt.mp h3)) ?_
    exact P182_142 H hd K0 Kr
noncomputable def f182_123 (s : g_S) (p1 : Int32) (x2 : Int32) (y1 : Int32) : Option ((Int32 × g_S) ⊕ (g_S)) := (f182_127 s p1 x2 y1 (s 199 19))
theorem P182_123 {d ex : Nat} {rr : m_R} {s : g_S} {p1 : Int32} {x2 : Int32} {y1 : Int32} {u3 : Option Value}   {z : ((Int32 × g_S) ⊕ (g_S))} (H : f182_123 s p1 x2 y1 = some z) (hd : 80 ≤ d) (K0 : ∀ S : Int32 × g_S, z = .inl S → ∀ u3 : Option Value, n_R X (d + 1) 182 51 [some (.ref 199), some (.int p1), some (.int S.1), u3] [] (g_M S.2 ex) rr) (Kr : ∀ q, z = .inr (q) → g_rSV q ex = rr) : n_R X (d + 1) 182 123 [some (.ref 199), some (.int p1), some (.int x2), u3] [.int y1, .ref 238] (g_M s ex) rr := by
  unfold f182_123 at H
  refine g_go 1 md_182 (i1 := 124) rfl ?_
  refine g_getf (n_q md_182 rfl) t_199 rfl ?_
  refine g_go 1 md_182 (i1 := 127) rfl ?_
  exact P182_127 H hd K0 Kr
noncomputable def f182_126 (s : g_S) (p1 : Int32) (x2 : Int32) (y1 : Int32) : Option ((Int32 × g_S) ⊕ (g_S)) := (f182_127 s p1 x2 y1 0)
theorem P182_126 {d ex : Nat} {rr : m_R} {s : g_S} {p1 : Int32} {x2 : Int32} {y1 : Int32} {u3 : Option Value}   {z : ((Int32 × g_S) ⊕ (g_S))} (H : f182_126 s p1 x2 y1 = some z) (hd : 80 ≤ d) (K0 : ∀ S : Int32 × g_S, z = .inl S → ∀ u3 : Option Value, n_R X (d + 1) 182 51 [some (.ref 199), some (.int p1), some (.int S.1), u3] [] (g_M S.2 ex) rr) (Kr : ∀ q, z = .inr (q) → g_rSV q ex = rr) : n_R X (d + 1) 182 126 [some (.ref 199), some (.int p1), some (.int x2), u3] [.int y1, .ref 238] (g_M s ex) rr := by
  unfold f182_126 at H
  refine g_go 1 md_182 (i1 := 127) rfl ?_
  exact P182_127 H hd K0 Kr
noncomputable def f182_100 (s : g_S) (p1 : Int32) (x2 : Int32) (y1 : Int32) (y2 : Int32) : Option ((Int32 × g_S) ⊕ (g_S)) := (if m_in y1 13 = true then if m_isb y2 = true then g_let (g_w s 243 y1.toNatClampNeg y2) fun s3 => if m_in x2 13 = true then if m_isb (s3 199 25) = true then g_let (g_w s3 244 x2.toNatClampNeg (s3 199 25)) fun s6 => if (s6 199 21) = 0 then (if (s6 199 22) = 0 then (f182_126 s6 p1 x2 x2) else (if (s6 (225 + x2.toNatClampNeg) 3) = 0 then (f182_123 s6 p1 x2 x2) else (f182_126 s6 p1 x2 x2))) else (f182_123 s6 p1 x2 x2) else none else none else none else none)
theorem P182_100 {d ex : Nat} {rr : m_R} {s : g_S} {p1 : Int32} {x2 : Int32} {y1 : Int32} {y2 : Int32} {u3 : Option Value}   {z : ((Int32 × g_S) ⊕ (g_S))} (H : f182_100 s p1 x2 y1 y2 = some z) (hd : 80 ≤ d) (K0 : ∀ S : Int32 × g_S, z = .inl S → ∀ u3 : Option Value, n_R X (d + 1) 182 51 [some (.ref 199), some (.int p1), some (.int S.1), u3] [] (g_M S.2 ex) rr) (Kr : ∀ q, z = .inr (q) → g_rSV q ex = rr) : n_R X (d + 1) 182 100 [some (.ref 199), some (.int p1), some (.int x2), u3] [.int y2, .int y1, .ref 243] (g_M s ex) rr := by
  unfold f182_100 at H
  obtain ⟨h1, H⟩ := g_gd H
  obtain ⟨hb2, H⟩ := g_gd H
  obtain ⟨s3, es3, H⟩ := g_letp H
  refine g_bast (n_q md_182 rfl) t_243 h1 hb2 es3 ?_
  refine g_go 1 md_182 (i1 := 102) rfl ?_
  refine g_getr 244 (n_q md_182 rfl) t_199 rfl ?_
  refine g_go 2 md_182 (i1 := 105) rfl ?_
  refine g_getf (n_q md_182 rfl) t_199 rfl ?_
  obtain ⟨h4, H⟩ := g_gd H
  obtain ⟨hb5, H⟩ := g_gd H
  obtain ⟨s6, es6, H⟩ := g_letp H
  refine g_bast (n_q md_182 rfl) t_244 h4 hb5 es6 ?_
  refine g_go 1 md_182 (i1 := 108) rfl ?_
  refine g_getr 238 (n_q md_182 rfl) t_199 rfl ?_
  refine g_go 2 md_182 (i1 := 111) rfl ?_
  refine g_getf (n_q md_182 rfl) t_199 rfl ?_
  by_cases h7 : (s6 199 21) = 0
  · rw [if_pos h7] at H
    refine n_ifF (n_q md_182 rfl) (fun e1 => of_decide_eq_true e1 h7) ?_
    refine g_go 1 md_182 (i1 := 114) rfl ?_
    refine g_getf (n_q md_182 rfl) t_199 rfl ?_
    by_cases h8 : (s6 199 22) = 0
    · rw [if_pos h8] at H
      refine n_ifT (n_q md_182 rfl) (decide_eq_true h8) ?_
      exact P182_126 H hd K0 Kr
    · rw [if_neg h8] at H
      refine n_ifF (n_q md_182 rfl) (fun e1 => h8 (of_decide_eq_true e1)) ?_
      refine g_go 1 md_182 (i1 := 117) rfl ?_
      refine g_getr 224 (n_q md_182 rfl) t_199 rfl ?_
      refine g_go 1 md_182 (i1 := 119) rfl ?_
      refine g_aald (n_q md_182 rfl) ta_224 (by decide) h4 (g_range (g_inlt h4)) ?_
      refine g_go 1 md_182 (i1 := 121) rfl ?_
      refine g_bald (n_q md_182 rfl) (te_224 (g_inlt h4)) (rfl : m_in 3 4 = true) ?_
      by_cases h9 : (s6 (225 + x2.toNatClampNeg) 3) = 0
      · rw [if_pos h9] at H
        refine n_ifF (n_q md_182 rfl) (fun e1 => of_decide_eq_true e1 h9) ?_
        exact P182_123 H hd K0 Kr
      · rw [if_neg h9] at H
        refine n_ifT (n_q md_182 rfl) (decide_eq_true h9) ?_
        exact P182_126 H hd K0 Kr
  · rw [if_neg h7] at H
    refine n_ifT (n_q md_182 rfl) (decide_eq_true h7) ?_
    exact P182_123 H hd K0 Kr
noncomputable def f182_99 (s : g_S) (p1 : Int32) (x2 : Int32) (y1 : Int32) : Option ((Int32 × g_S) ⊕ (g_S)) := (f182_100 s p1 x2 y1 0)
theorem P182_99 {d ex : Nat} {rr : m_R} {s : g_S} {p1 : Int32} {x2 : Int32} {y1 : Int32} {u3 : Option Value}   {z : ((Int32 × g_S) ⊕ (g_S))} (H : f182_99 s p1 x2 y1 = some z) (hd : 80 ≤ d) (K0 : ∀ S : Int32 × g_S, z = .inl S → ∀ u3 : Option Value, n_R X (d + 1) 182 51 [some (.ref 199), some (.int p1), some (.int S.1), u3] [] (g_M S.2 ex) rr) (Kr : ∀ q, z = .inr (q) → g_rSV q ex = rr) : n_R X (d + 1) 182 99 [some (.ref 199), some (.int p1), some (.int x2), u3] [.int y1, .ref 243] (g_M s ex) rr := by
  unfold f182_99 at H
  refine g_go 1 md_182 (i1 := 100) rfl ?_
  exact P182_100 H hd K0 Kr
noncomputable def f182_76 (s : g_S) (p1 : Int32) (x2 : Int32) : Option ((Int32 × g_S) ⊕ (g_S)) := (if m_in x2 13 = true then (f168 s p1 (s (209 + x2.toNatClampNeg) 0) (s 199 28) 0).bind fun s3 => if (s3 199 22) = 0 then (f182_99 s3 p1 x2 x2) else (if (s3 199 21) = 0 then (f182_100 s3 p1 x2 x2 1) else (f182_99 s3 p1 x2 x2)) else none)
theorem P182_76 {d ex : Nat} {rr : m_R} {s : g_S} {p1 : Int32} {x2 : Int32} {u3 : Option Value}   {z : ((Int32 × g_S) ⊕ (g_S))} (H : f182_76 s p1 x2 = some z) (hd : 80 ≤ d) (K0 : ∀ S : Int32 × g_S, z = .inl S → ∀ u3 : Option Value, n_R X (d + 1) 182 51 [some (.ref 199), some (.int p1), some (.int S.1), u3] [] (g_M S.2 ex) rr) (Kr : ∀ q, z = .inr (q) → g_rSV q ex = rr) : n_R X (d + 1) 182 76 [some (.ref 199), some (.int p1), some (.int x2), u3] [] (g_M s ex) rr := by
  unfold f182_76 at H
  refine g_go 3 md_182 (i1 := 79) rfl ?_
  refine g_getr 208 (n_q md_182 rfl) t_199 rfl ?_
  refine g_go 1 md_182 (i1 := 81) rfl ?_
  obtain ⟨h1, H⟩ := g_gd H
  refine g_aald (n_q md_182 rfl) ta_208 (by decide) h1 (g_range (g_inlt h1)) ?_
  refine g_go 1 md_182 (i1 := 83) rfl ?_
  refine g_iald (n_q md_182 rfl) (te_208 (g_inlt h1)) (rfl : m_in 0 5 = true) ?_
  refine g_go 1 md_182 (i1 := 85) rfl ?_
  refine g_getf (n_q md_182 rfl) t_199 rfl ?_
  refine g_go 1 md_182 (i1 := 87) rfl ?_
  obtain ⟨s3, hs3, H⟩ := g_bind H
  refine n_call (n_q md_182 rfl) (As := [.ref 199, .int p1, .int (s (209 + x2.toNatClampNeg) 0), .int (s 199 28), .int 0]) (rest := []) rfl rfl (Nat.le_of_ble_eq_true rfl) rfl (g_recv (b := 0) rfl t_199 rfl) (C168 (by omega) hs3) ?_
  refine g_go 1 md_182 (i1 := 89) rfl ?_
  refine g_getr 243 (n_q md_182 rfl) t_199 rfl ?_
  refine g_go 2 md_182 (i1 := 92) rfl ?_
  refine g_getf (n_q md_182 rfl) t_199 rfl ?_
  by_cases h4 : (s3 199 22) = 0
  · rw [if_pos h4] at H
    refine n_ifT (n_q md_182 rfl) (decide_eq_true h4) ?_
    exact P182_99 H hd K0 Kr
  · rw [if_neg h4] at H
    refine n_ifF (n_q md_182 rfl) (fun e1 => h4 (of_decide_eq_true e1)) ?_
    refine g_go 1 md_182 (i1 := 95) rfl ?_
    refine g_getf (n_q md_182 rfl) t_199 rfl ?_
    by_cases h5 : (s3 199 21) = 0
    · rw [if_pos h5] at H
      refine n_ifF (n_q md_182 rfl) (fun e1 => of_decide_eq_true e1 h5) ?_
      refine g_go 2 md_182 (i1 := 100) rfl ?_
      exact P182_100 H hd K0 Kr
    · rw [if_neg h5] at H
      refine n_ifT (n_q md_182 rfl) (decide_eq_true h5) ?_
      exact P182_99 H hd K0 Kr
noncomputable def f182_61 (s : g_S) (p1 : Int32) (x2 : Int32) (x3 : Int32) : Option ((Int32 × g_S) ⊕ ((Int32 × g_S) ⊕ (g_S))) := (if x3 < 8 then (if m_in x2 13 = true then if m_in x3 8 = true then g_let (g_w s (246 + x2.toNatClampNeg) x3.toNatClampNeg (s 207 x3.toNatClampNeg)) fun s4 => some (.inl (x3 + 1, s4)) else none else none) else (Option.map (fun w => (.inr (w) : ((Int32 × g_S) ⊕ ((Int32 × g_S) ⊕ (g_S))))) (f182_76 s p1 x2)))
theorem P182_61 {d ex : Nat} {rr : m_R} {s : g_S} {p1 : Int32} {x2 : Int32} {x3 : Int32}   {z : ((Int32 × g_S) ⊕ ((Int32 × g_S) ⊕ (g_S)))} (H : f182_61 s p1 x2 x3 = some z) (hd : 80 ≤ d) (K0 : ∀ S : Int32 × g_S, z = .inl S → n_R X (d + 1) 182 61 [some (.ref 199), some (.int p1), some (.int x2), some (.int S.1)] [] (g_M S.2 ex) rr) (K1 : ∀ S : Int32 × g_S, z = .inr (.inl S) → ∀ u3 : Option Value, n_R X (d + 1) 182 51 [some (.ref 199), some (.int p1), some (.int S.1), u3] [] (g_M S.2 ex) rr) (Kr : ∀ q, z = .inr (.inr (q)) → g_rSV q ex = rr) : n_R X (d + 1) 182 61 [some (.ref 199), some (.int p1), some (.int x2), some (.int x3)] [] (g_M s ex) rr := by
  unfold f182_61 at H
  refine g_go 2 md_182 (i1 := 63) rfl ?_
  by_cases h1 : x3 < 8
  · rw [if_pos h1] at H
    refine n_cmpF (n_q md_182 rfl) (fun e1 => absurd (of_decide_eq_true e1) (Int32.not_le.mpr h1)) ?_
    refine g_go 1 md_182 (i1 := 65) rfl ?_
    refine g_getr 245 (n_q md_182 rfl) t_199 rfl ?_
    refine g_go 1 md_182 (i1 := 67) rfl ?_
    obtain ⟨h2, H⟩ := g_gd H
    refine g_aald (n_q md_182 rfl) ta_245 (by decide) h2 (g_range (g_inlt h2)) ?_
    refine g_go 2 md_182 (i1 := 70) rfl ?_
    refine g_getr 207 (n_q md_182 rfl) t_199 rfl ?_
    refine g_go 1 md_182 (i1 := 72) rfl ?_
    obtain ⟨h3, H⟩ := g_gd H
    refine g_iald (n_q md_182 rfl) t_207 h3 ?_
    obtain ⟨s4, es4, H⟩ := g_letp H
    refine g_iast (n_q md_182 rfl) (te_245 (g_inlt h2)) h3 es4 ?_
    refine g_go 2 md_182 (i1 := 61) (ls1 := [some (.ref 199), some (.int p1), some (.int x2), some (.int (x3 + 1))]) rfl ?_
    cases H
    exact K0 (x3 + 1, s4) rfl
  · rw [if_neg h1] at H
    refine n_cmpT (n_q md_182 rfl) (decide_eq_true (Int32.not_lt.mp h1)) ?_
    obtain ⟨w, hw, H⟩ := g_mapp H
    subst H
    exact P182_76 hw hd (fun S1 e1 => K1 S1 (by rw [e1])) (fun q e1 => Kr q (by rw [e1]))
noncomputable def f182_61L (s : g_S) (p1 : Int32) (x2 : Int32) (x3 : Int32) : Option ((Int32 × g_S) ⊕ (g_S)) := g_run (fun S : Int32 × g_S => f182_61 S.2 p1 x2 S.1) (x3, s)
theorem f182_61L_eq (s : g_S) (p1 : Int32) (x2 : Int32) (x3 : Int32) : f182_61L s p1 x2 x3 = g_st (f182_61 s p1 x2 x3) (fun S => f182_61L S.2 p1 x2 S.1) := by
  unfold f182_61L
  exact g_run_eq _ _
theorem P182_61L {d ex : Nat} {rr : m_R} {s : g_S} {p1 : Int32} {x2 : Int32} {x3 : Int32}   {z : ((Int32 × g_S) ⊕ (g_S))} (H : f182_61L s p1 x2 x3 = some z) (hd : 80 ≤ d) (K0 : ∀ S : Int32 × g_S, z = .inl S → ∀ u3 : Option Value, n_R X (d + 1) 182 51 [some (.ref 199), some (.int p1), some (.int S.1), u3] [] (g_M S.2 ex) rr) (Kr : ∀ q, z = .inr (q) → g_rSV q ex = rr) : n_R X (d + 1) 182 61 [some (.ref 199), some (.int p1), some (.int x2), some (.int x3)] [] (g_M s ex) rr := by
  unfold f182_61L at H
  have KO0 := K0
  have KOr := Kr
  refine g_rs (Q := fun S => n_R X (d + 1) 182 61 [some (.ref 199), some (.int p1), some (.int x2), some (.int S.1)] [] (g_M S.2 ex) rr) H ?_
  intro S w hb K0 KK
  refine P182_61 hb hd ?_ ?_ ?_
  · exact fun S1 e1 => K0 S1 e1
  · exact fun S1 e1 => KO0 S1 (KK _ e1).symm
  · exact fun q e1 => KOr q (KK _ e1).symm
noncomputable def f182_51 (s : g_S) (p1 : Int32) (x2 : Int32) : Option ((Int32 × g_S) ⊕ (g_S)) := (if (s 199 34) < x2 then (Option.map (fun w => (.inr (w) : ((Int32 × g_S) ⊕ (g_S)))) (f182_151L s p1 (s 199 34))) else ((f181 s x2 p1).bind fun s3 => f182_61L s3 p1 x2 0))
theorem P182_51 {d ex : Nat} {rr : m_R} {s : g_S} {p1 : Int32} {x2 : Int32} {u3 : Option Value}   {z : ((Int32 × g_S) ⊕ (g_S))} (H : f182_51 s p1 x2 = some z) (hd : 80 ≤ d) (K0 : ∀ S : Int32 × g_S, z = .inl S → ∀ u3 : Option Value, n_R X (d + 1) 182 51 [some (.ref 199), some (.int p1), some (.int S.1), u3] [] (g_M S.2 ex) rr) (Kr : ∀ q, z = .inr (q) → g_rSV q ex = rr) : n_R X (d + 1) 182 51 [some (.ref 199), some (.int p1), some (.int x2), u3] [] (g_M s ex) rr := by
  unfold f182_51 at H
  refine g_go 2 md_182 (i1 := 53) rfl ?_
  refine g_getf (n_q md_182 rfl) t_199 rfl ?_
  by_cases h1 : (s 199 34) < x2
  · rw [if_pos h1] at H
    refine n_cmpT (n_q md_182 rfl) (decide_eq_true h1) ?_
    refine g_go 1 md_182 (i1 := 149) rfl ?_
    refine g_getf (n_q md_182 rfl) t_199 rfl ?_
    refine g_go 1 md_182 (i1 := 151) (ls1 := [some (.ref 199), some (.int p1), some (.int (s 199 34)), u3]) rfl ?_
    obtain ⟨w, hw, H⟩ := g_mapp H
    subst H
    rw [← Kr _ rfl]
    exact P182_151L hw hd
  · rw [if_neg h1] at H
    refine n_cmpF (n_q md_182 rfl) (fun e1 => h1 (of_decide_eq_true e1)) ?_
    refine g_go 3 md_182 (i1 := 58) rfl ?_
    obtain ⟨s3, hs3, H⟩ := g_bind H
    refine n_call (n_q md_182 rfl) (As := [.ref 199, .int x2, .int p1]) (rest := []) rfl rfl (Nat.le_of_ble_eq_true rfl) rfl (g_recv (b := 0) rfl t_199 rfl) (C181 (by omega) hs3) ?_
    refine g_go 2 md_182 (i1 := 61) (ls1 := [some (.ref 199), some (.int p1), some (.int x2), some (.int 0)]) rfl ?_
    exact P182_61L H hd K0 Kr
noncomputable def f182_51L (s : g_S) (p1 : Int32) (x2 : Int32) : Option (g_S) := g_run (fun S : Int32 × g_S => f182_51 S.2 p1 S.1) (x2, s)
theorem f182_51L_eq (s : g_S) (p1 : Int32) (x2 : Int32) : f182_51L s p1 x2 = g_st (f182_51 s p1 x2) (fun S => f182_51L S.2 p1 S.1) := by
  unfold f182_51L
  exact g_run_eq _ _
theorem P182_51L {d ex : Nat} {s : g_S} {p1 : Int32} {x2 : Int32} {u3 : Option Value}   {z : (g_S)} (H : f182_51L s p1 x2 = some z) (hd : 80 ≤ d)  : n_R X (d + 1) 182 51 [some (.ref 199), some (.int p1), some (.int x2), u3] [] (g_M s ex) (g_rSV z ex) := by
  unfold f182_51L at H
  refine g_rs (Q := fun S => ∀ u3 : Option Value, n_R X (d + 1) 182 51 [some (.ref 199), some (.int p1), some (.int S.1), u3] [] (g_M S.2 ex) (g_rSV z ex)) H ?_ u3
  intro S w hb K0 KK u3
  refine P182_51 hb hd ?_ ?_
  · exact fun S1 e1 => K0 S1 e1
  · exact fun q e1 => by rw [KK q e1]
noncomputable def f182_44 (s : g_S) (p1 : Int32) : Option (g_S) := (if (s 199 28) = ((-1)) then (some s) else (f182_51L s p1 1))
theorem P182_44 {d ex : Nat} {s : g_S} {p1 : Int32} {u2 u3 : Option Value}   {z : (g_S)} (H : f182_44 s p1 = some z) (hd : 80 ≤ d)  : n_R X (d + 1) 182 44 [some (.ref 199), some (.int p1), u2, u3] [] (g_M s ex) (g_rSV z ex) := by
  unfold f182_44 at H
  refine g_go 1 md_182 (i1 := 45) rfl ?_
  refine g_getf (n_q md_182 rfl) t_199 rfl ?_
  refine g_go 1 md_182 (i1 := 47) rfl ?_
  by_cases h1 : (s 199 28) = ((-1))
  · rw [if_pos h1] at H
    refine n_cmpF (n_q md_182 rfl) (fun e1 => of_decide_eq_true e1 h1) ?_
    cases H
    exact n_end (n_q md_182 rfl) (fun _ => rfl)
  · rw [if_neg h1] at H
    refine n_cmpT (n_q md_182 rfl) (decide_eq_true h1) ?_
    refine g_go 2 md_182 (i1 := 51) (ls1 := [some (.ref 199), some (.int p1), some (.int 1), u3]) rfl ?_
    exact P182_51L H hd
noncomputable def f182_4 (s : g_S) (p1 : Int32) (x2 : Int32) : Option ((Int32 × g_S) ⊕ (g_S)) := (if x2 < 13 then (if m_in x2 13 = true then g_let (g_w s 238 x2.toNatClampNeg 0) fun s3 => g_let (g_w s3 239 x2.toNatClampNeg ((-1))) fun s4 => g_let (g_w s4 240 x2.toNatClampNeg 0) fun s5 => g_let (g_w s5 241 x2.toNatClampNeg 0) fun s6 => g_let (g_w s6 242 x2.toNatClampNeg 0) fun s7 => g_let (g_w s7 243 x2.toNatClampNeg 0) fun s8 => g_let (g_w s8 244 x2.toNatClampNeg 0) fun s9 => some (.inl (x2 + 1, s9)) else none) else (Option.map (fun w => (.inr (w) : ((Int32 × g_S) ⊕ (g_S)))) (f182_44 s p1)))
theorem P182_4 {d ex : Nat} {rr : m_R} {s : g_S} {p1 : Int32} {x2 : Int32} {u3 : Option Value}   {z : ((Int32 × g_S) ⊕ (g_S))} (H : f182_4 s p1 x2 = some z) (hd : 80 ≤ d) (K0 : ∀ S : Int32 × g_S, z = .inl S → ∀ u3 : Option Value, n_R X (d + 1) 182 4 [some (.ref 199), some (.int p1), some (.int S.1), u3] [] (g_M S.2 ex) rr) (Kr : ∀ q, z = .inr (q) → g_rSV q ex = rr) : n_R X (d + 1) 182 4 [some (.ref 199), some (.int p1), some (.int x2), u3] [] (g_M s ex) rr := by
  unfold f182_4 at H
  refine g_go 2 md_182 (i1 := 6) rfl ?_
  by_cases h1 : x2 < 13
  · rw [if_pos h1] at H
    refine n_cmpF (n_q md_182 rfl) (fun e1 => absurd (of_decide_eq_true e1) (Int32.not_le.mpr h1)) ?_
    refine g_go 1 md_182 (i1 := 8) rfl ?_
    refine g_getr 238 (n_q md_182 rfl) t_199 rfl ?_
    refine g_go 2 md_182 (i1 := 11) rfl ?_
    obtain ⟨h2, H⟩ := g_gd H
    obtain ⟨s3, es3, H⟩ := g_letp H
    refine g_iast (n_q md_182 rfl) t_238 h2 es3 ?_
    refine g_go 1 md_182 (i1 := 13) rfl ?_
    refine g_getr 239 (n_q md_182 rfl) t_199 rfl ?_
    refine g_go 2 md_182 (i1 := 16) rfl ?_
    obtain ⟨s4, es4, H⟩ := g_letp H
    refine g_iast (n_q md_182 rfl) t_239 h2 es4 ?_
    refine g_go 1 md_182 (i1 := 18) rfl ?_
    refine g_getr 240 (n_q md_182 rfl) t_199 rfl ?_
    refine g_go 2 md_182 (i1 := 21) rfl ?_
    obtain ⟨s5, es5, H⟩ := g_letp H
    refine g_iast (n_q md_182 rfl) t_240 h2 es5 ?_
    refine g_go 1 md_182 (i1 := 23) rfl ?_
    refine g_getr 241 (n_q md_182 rfl) t_199 rfl ?_
    refine g_go 2 md_182 (i1 := 26) rfl ?_
    obtain ⟨s6, es6, H⟩ := g_letp H
    refine g_iast (n_q md_182 rfl) t_241 h2 es6 ?_
    refine g_go 1 md_182 (i1 := 28) rfl ?_
    refine g_getr 242 (n_q md_182 rfl) t_199 rfl ?_
    refine g_go 2 md_182 (i1 := 31) rfl ?_
    obtain ⟨s7, es7, H⟩ := g_letp H
    refine g_iast (n_q md_182 rfl) t_242 h2 es7 ?_
    refine g_go 1 md_182 (i1 := 33) rfl ?_
    refine g_getr 243 (n_q md_182 rfl) t_199 rfl ?_
    refine g_go 2 md_182 (i1 := 36) rfl ?_
    obtain ⟨s8, es8, H⟩ := g_letp H
    refine g_bast (n_q md_182 rfl) t_243 h2 rfl es8 ?_
    refine g_go 1 md_182 (i1 := 38) rfl ?_
    refine g_getr 244 (n_q md_182 rfl) t_199 rfl ?_
    refine g_go 2 md_182 (i1 := 41) rfl ?_
    obtain ⟨s9, es9, H⟩ := g_letp H
    refine g_bast (n_q md_182 rfl) t_244 h2 rfl es9 ?_
    refine g_go 2 md_182 (i1 := 4) (ls1 := [some (.ref 199), some (.int p1), some (.int (x2 + 1)), u3]) rfl ?_
    cases H
    exact K0 (x2 + 1, s9) rfl _
  · rw [if_neg h1] at H
    refine n_cmpT (n_q md_182 rfl) (decide_eq_true (Int32.not_lt.mp h1)) ?_
    obtain ⟨w, hw, H⟩ := g_mapp H
    subst H
    rw [← Kr _ rfl]
    exact P182_44 hw hd
noncomputable def f182_4L (s : g_S) (p1 : Int32) (x2 : Int32) : Option (g_S) := g_run (fun S : Int32 × g_S => f182_4 S.2 p1 S.1) (x2, s)
theorem f182_4L_eq (s : g_S) (p1 : Int32) (x2 : Int32) : f182_4L s p1 x2 = g_st (f182_4 s p1 x2) (fun S => f182_4L S.2 p1 S.1) := by
  unfold f182_4L
  exact g_run_eq _ _
theorem P182_4L {d ex : Nat} {s : g_S} {p1 : Int32} {x2 : Int32} {u3 : Option Value}   {z : (g_S)} (H : f182_4L s p1 x2 = some z) (hd : 80 ≤ d)  : n_R X (d + 1) 182 4 [some (.ref 199), some (.int p1), some (.int x2), u3] [] (g_M s ex) (g_rSV z ex) := by
  unfold f182_4L at H
  refine g_rs (Q := fun S => ∀ u3 : Option Value, n_R X (d + 1) 182 4 [some (.ref 199), some (.int p1), some (.int S.1), u3] [] (g_M S.2 ex) (g_rSV z ex)) H ?_ u3
  intro S w hb K0 KK u3
  refine P182_4 hb hd ?_ ?_
  · exact fun S1 e1 => K0 S1 e1
  · exact fun q e1 => by rw [KK q e1]
noncomputable def f182 (s : g_S) (p1 : Int32) : Option (g_S) := ((f179 s).bind fun s2 => f182_4L s2 p1 0)
theorem C182 {d ex : Nat} {s : g_S} {p1 : Int32}  {z : g_S} (hd : 80 < d) (H : f182 s p1 = some z) : n_C X d 182 [.ref 199, .int p1] (g_M s ex) (g_rSV z ex) := by
  obtain ⟨d, rfl⟩ : ∃ d1, d = d1 + 1 := ⟨d - 1, by omega⟩
  replace hd := Nat.le_of_lt_succ hd
  refine ⟨Nat.le_of_ble_eq_true rfl, ?_⟩
  rw [md_182]
  show n_R X (d + 1) 182 0 [some (.ref 199), some (.int p1), none, none] [] (g_M s ex) _
  unfold f182 at H
  refine g_go 1 md_182 (i1 := 1) rfl ?_
  obtain ⟨s2, hs2, H⟩ := g_bind H
  refine n_call (n_q md_182 rfl) (As := [.ref 199]) (rest := []) rfl rfl (Nat.le_of_ble_eq_true rfl) rfl (g_recv (b := 0) rfl t_199 rfl) (C179 (by omega) hs2) ?_
  refine g_go 2 md_182 (i1 := 4) (ls1 := [some (.ref 199), some (.int p1), some (.int 0), none]) rfl ?_
  exact P182_4L H hd

theorem md_183 : m_md 183 = m_X8_holder := rfl
noncomputable def f183 (s : g_S) : Option (Int32 × g_S) := (g_let (g_w s 199 0 0) fun s1 => (f179 s1).bind fun s3 => some ((s3 199 34, s3)))
theorem C183 {d ex : Nat} {s : g_S}  {z : Int32 × g_S} (hd : 13 < d) (H : f183 s = some z) : n_C X d 183 [.ref 199] (g_M s ex) (g_rSI z ex) := by
  obtain ⟨d, rfl⟩ : ∃ d1, d = d1 + 1 := ⟨d - 1, by omega⟩
  replace hd := Nat.le_of_lt_succ hd
  refine ⟨Nat.le_of_ble_eq_true rfl, ?_⟩
  rw [md_183]
  show n_R X (d + 1) 183 0 [some (.ref 199)] [] (g_M s ex) _
  unfold f183 at H
  refine g_go 2 md_183 (i1 := 2) rfl ?_
  obtain ⟨s1, es1, H⟩ := g_letp H
  refine g_putf (n_q md_183 rfl) t_199 rfl rfl es1 ?_
  refine g_go 1 md_183 (i1 := 4) rfl ?_
  obtain ⟨s3, hs3, H⟩ := g_bind H
  refine n_call (n_q md_183 rfl) (As := [.ref 199]) (rest := []) rfl rfl (Nat.le_of_ble_eq_true rfl) rfl (g_recv (b := 0) rfl t_199 rfl) (C179 (by omega) hs3) ?_
  refine g_go 1 md_183 (i1 := 6) rfl ?_
  refine g_getf (n_q md_183 rfl) t_199 rfl ?_
  cases H
  exact n_iret (n_q md_183 rfl) (Or.inl rfl)

theorem md_184 : m_md 184 = m_X8_isWithin := rfl
noncomputable def f184 (s : g_S) (p1 : Int32) : Option (Int32) := (if 0 < p1 then (if (s 199 34) < p1 then (some 0) else (some 1)) else (some 0))
theorem C184 {d ex : Nat} {s : g_S} {p1 : Int32}  {z : Int32} (hd : 12 < d) (H : f184 s p1 = some z) : n_C X d 184 [.ref 199, .int p1] (g_M s ex) (g_rPI s z ex) := by
  obtain ⟨d, rfl⟩ : ∃ d1, d = d1 + 1 := ⟨d - 1, by omega⟩
  replace hd := Nat.le_of_lt_succ hd
  refine ⟨Nat.le_of_ble_eq_true rfl, ?_⟩
  rw [md_184]
  show n_R X (d + 1) 184 0 [some (.ref 199), some (.int p1)] [] (g_M s ex) _
  unfold f184 at H
  refine g_go 1 md_184 (i1 := 1) rfl ?_
  by_cases h1 : 0 < p1
  · rw [if_pos h1] at H
    refine n_ifF (n_q md_184 rfl) (fun e1 => absurd (of_decide_eq_true e1) (Int32.not_le.mpr h1)) ?_
    refine g_go 2 md_184 (i1 := 4) rfl ?_
    refine g_getf (n_q md_184 rfl) t_199 rfl ?_
    by_cases h2 : (s 199 34) < p1
    · rw [if_pos h2] at H
      refine n_cmpT (n_q md_184 rfl) (decide_eq_true h2) ?_
      refine g_go 1 md_184 (i1 := 9) rfl ?_
      cases H
      exact n_iret (n_q md_184 rfl) (Or.inr rfl)
    · rw [if_neg h2] at H
      refine n_cmpF (n_q md_184 rfl) (fun e1 => h2 (of_decide_eq_true e1)) ?_
      refine g_go 2 md_184 (i1 := 9) rfl ?_
      cases H
      exact n_iret (n_q md_184 rfl) (Or.inr rfl)
  · rw [if_neg h1] at H
    refine n_ifT (n_q md_184 rfl) (decide_eq_true (Int32.not_lt.mp h1)) ?_
    refine g_go 1 md_184 (i1 := 9) rfl ?_
    cases H
    exact n_iret (n_q md_184 rfl) (Or.inr rfl)

theorem md_185 : m_md 185 = m_X8_name := rfl
noncomputable def f185_23 (s : g_S) (p1 : Int32) (p2 : Int32) (y1 : Int32) : Option (Int32 × g_S) := (g_bd (f134 s y1 2) fun v1 s2 => if v1 = 0 then ((f182 s2 (s2 199 13)).bind fun s5 => (f184 s5 p1).bind fun v6 => if v6 = 0 then (some (((-1), s5))) else (if m_in p1 13 = true then if m_in p2 8 = true then some ((s5 (246 + p1.toNatClampNeg) p2.toNatClampNeg, s5)) else none else none)) else (some ((0, s2))))
theorem P185_23 {d ex : Nat} {s : g_S} {p1 : Int32} {p2 : Int32} {y1 : Int32}   {z : (Int32 × g_S)} (H : f185_23 s p1 p2 y1 = some z) (hd : 81 ≤ d)  : n_R X (d + 1) 185 23 [some (.ref 199), some (.int p1), some (.int p2)] [.int y1, .ref 199] (g_M s ex) (g_rSI z ex) := by
  unfold f185_23 at H
  refine g_go 1 md_185 (i1 := 24) rfl ?_
  obtain ⟨v1, s2, hv1, H⟩ := g_bdp H
  refine n_callv (n_q md_185 rfl) (As := [.ref 199, .int y1, .int 2]) (rest := []) rfl rfl (Nat.le_of_ble_eq_true rfl) rfl (g_recv (b := 0) rfl t_199 rfl) (C134 (by omega) hv1) ?_
  by_cases h3 : v1 = 0
  · rw [if_pos h3] at H
    refine n_ifT (n_q md_185 rfl) (decide_eq_true h3) ?_
    refine g_go 2 md_185 (i1 := 30) rfl ?_
    refine g_getf (n_q md_185 rfl) t_199 rfl ?_
    obtain ⟨s5, hs5, H⟩ := g_bind H
    refine n_call (n_q md_185 rfl) (As := [.ref 199, .int (s2 199 13)]) (rest := []) rfl rfl (Nat.le_of_ble_eq_true rfl) rfl (g_recv (b := 0) rfl t_199 rfl) (C182 (by omega) hs5) ?_
    refine g_go 2 md_185 (i1 := 34) rfl ?_
    obtain ⟨v6, hv6, H⟩ := g_bind H
    refine n_callv (n_q md_185 rfl) (As := [.ref 199, .int p1]) (rest := []) rfl rfl (Nat.le_of_ble_eq_true rfl) rfl (g_recv (b := 0) rfl t_199 rfl) (C184 (by omega) hv6) ?_
    by_cases h7 : v6 = 0
    · rw [if_pos h7] at H
      refine n_ifT (n_q md_185 rfl) (decide_eq_true h7) ?_
      refine g_go 1 md_185 (i1 := 44) rfl ?_
      cases H
      exact n_iret (n_q md_185 rfl) (Or.inl rfl)
    · rw [if_neg h7] at H
      refine n_ifF (n_q md_185 rfl) (fun e1 => h7 (of_decide_eq_true e1)) ?_
      refine g_go 1 md_185 (i1 := 37) rfl ?_
      refine g_getr 245 (n_q md_185 rfl) t_199 rfl ?_
      refine g_go 1 md_185 (i1 := 39) rfl ?_
      obtain ⟨h8, H⟩ := g_gd H
      refine g_aald (n_q md_185 rfl) ta_245 (by decide) h8 (g_range (g_inlt h8)) ?_
      refine g_go 1 md_185 (i1 := 41) rfl ?_
      obtain ⟨h9, H⟩ := g_gd H
      refine g_iald (n_q md_185 rfl) (te_245 (g_inlt h8)) h9 ?_
      refine g_go 1 md_185 (i1 := 44) rfl ?_
      cases H
      exact n_iret (n_q md_185 rfl) (Or.inl rfl)
  · rw [if_neg h3] at H
    refine n_ifF (n_q md_185 rfl) (fun e1 => h3 (of_decide_eq_true e1)) ?_
    refine g_go 1 md_185 (i1 := 27) rfl ?_
    cases H
    exact n_iret (n_q md_185 rfl) (Or.inl rfl)
noncomputable def f185_11 (s : g_S) (p1 : Int32) (p2 : Int32) (y1 : Int32) : Option (Int32 × g_S) := (g_bd (f134 s y1 1) fun v1 s2 => if v1 = 0 then ((f135 s2 p2 0 7).bind fun v4 => if v4 = 0 then (f185_23 s2 p1 p2 1) else (f185_23 s2 p1 p2 0)) else (some ((0, s2))))
theorem P185_11 {d ex : Nat} {s : g_S} {p1 : Int32} {p2 : Int32} {y1 : Int32}   {z : (Int32 × g_S)} (H : f185_11 s p1 p2 y1 = some z) (hd : 81 ≤ d)  : n_R X (d + 1) 185 11 [some (.ref 199), some (.int p1), some (.int p2)] [.int y1, .ref 199] (g_M s ex) (g_rSI z ex) := by
  unfold f185_11 at H
  refine g_go 1 md_185 (i1 := 12) rfl ?_
  obtain ⟨v1, s2, hv1, H⟩ := g_bdp H
  refine n_callv (n_q md_185 rfl) (As := [.ref 199, .int y1, .int 1]) (rest := []) rfl rfl (Nat.le_of_ble_eq_true rfl) rfl (g_recv (b := 0) rfl t_199 rfl) (C134 (by omega) hv1) ?_
  by_cases h3 : v1 = 0
  · rw [if_pos h3] at H
    refine n_ifF (n_q md_185 rfl) (fun e1 => of_decide_eq_true e1 h3) ?_
    refine g_go 4 md_185 (i1 := 18) rfl ?_
    obtain ⟨v4, hv4, H⟩ := g_bind H
    refine n_callv (n_q md_185 rfl) (As := [.int p2, .int 0, .int 7]) (rest := [.ref 199]) rfl rfl (Nat.le_of_ble_eq_true rfl) rfl rfl (C135 (by omega) hv4) ?_
    by_cases h5 : v4 = 0
    · rw [if_pos h5] at H
      refine n_ifF (n_q md_185 rfl) (fun e1 => of_decide_eq_true e1 h5) ?_
      refine g_go 2 md_185 (i1 := 23) rfl ?_
      exact P185_23 H hd
    · rw [if_neg h5] at H
      refine n_ifT (n_q md_185 rfl) (decide_eq_true h5) ?_
      refine g_go 1 md_185 (i1 := 23) rfl ?_
      exact P185_23 H hd
  · rw [if_neg h3] at H
    refine n_ifT (n_q md_185 rfl) (decide_eq_true h3) ?_
    refine g_go 1 md_185 (i1 := 27) rfl ?_
    cases H
    exact n_iret (n_q md_185 rfl) (Or.inl rfl)
noncomputable def f185 (s : g_S) (p1 : Int32) (p2 : Int32) : Option (Int32 × g_S) := (g_let (g_w s 199 0 0) fun s1 => (f173 s1 p1).bind fun v2 => if v2 = 0 then (f185_11 s1 p1 p2 1) else (f185_11 s1 p1 p2 0))
theorem C185 {d ex : Nat} {s : g_S} {p1 : Int32} {p2 : Int32}  {z : Int32 × g_S} (hd : 81 < d) (H : f185 s p1 p2 = some z) : n_C X d 185 [.ref 199, .int p1, .int p2] (g_M s ex) (g_rSI z ex) := by
  obtain ⟨d, rfl⟩ : ∃ d1, d = d1 + 1 := ⟨d - 1, by omega⟩
  replace hd := Nat.le_of_lt_succ hd
  refine ⟨Nat.le_of_ble_eq_true rfl, ?_⟩
  rw [md_185]
  show n_R X (d + 1) 185 0 [some (.ref 199), some (.int p1), some (.int p2)] [] (g_M s ex) _
  unfold f185 at H
  refine g_go 2 md_185 (i1 := 2) rfl ?_
  obtain ⟨s1, es1, H⟩ := g_letp H
  refine g_putf (n_q md_185 rfl) t_199 rfl rfl es1 ?_
  refine g_go 3 md_185 (i1 := 6) rfl ?_
  obtain ⟨v2, hv2, H⟩ := g_bind H
  refine n_callv (n_q md_185 rfl) (As := [.ref 199, .int p1]) (rest := [.ref 199]) rfl rfl (Nat.le_of_ble_eq_true rfl) rfl (g_recv (b := 0) rfl t_199 rfl) (C173 (by omega) hv2) ?_
  by_cases h3 : v2 = 0
  · rw [if_pos h3] at H
    refine n_ifF (n_q md_185 rfl) (fun e1 => of_decide_eq_true e1 h3) ?_
    refine g_go 2 md_185 (i1 := 11) rfl ?_
    exact P185_11 H hd
  · rw [if_neg h3] at H
    refine n_ifT (n_q md_185 rfl) (decide_eq_true h3) ?_
    refine g_go 1 md_185 (i1 := 11) rfl ?_
    exact P185_11 H hd

theorem md_186 : m_md 186 = m_X8_claim := rfl
noncomputable def f186_11 (s : g_S) (p1 : Int32) (y1 : Int32) : Option (Int32 × g_S) := (g_bd (f134 s y1 1) fun v1 s2 => if v1 = 0 then ((f182 s2 (s2 199 13)).bind fun s5 => if m_in p1 13 = true then some ((s5 238 p1.toNatClampNeg, s5)) else none) else (some ((0, s2))))
theorem P186_11 {d ex : Nat} {s : g_S} {p1 : Int32} {y1 : Int32}   {z : (Int32 × g_S)} (H : f186_11 s p1 y1 = some z) (hd : 81 ≤ d)  : n_R X (d + 1) 186 11 [some (.ref 199), some (.int p1)] [.int y1, .ref 199] (g_M s ex) (g_rSI z ex) := by
  unfold f186_11 at H
  refine g_go 1 md_186 (i1 := 12) rfl ?_
  obtain ⟨v1, s2, hv1, H⟩ := g_bdp H
  refine n_callv (n_q md_186 rfl) (As := [.ref 199, .int y1, .int 1]) (rest := []) rfl rfl (Nat.le_of_ble_eq_true rfl) rfl (g_recv (b := 0) rfl t_199 rfl) (C134 (by omega) hv1) ?_
  by_cases h3 : v1 = 0
  · rw [if_pos h3] at H
    refine n_ifT (n_q md_186 rfl) (decide_eq_true h3) ?_
    refine g_go 2 md_186 (i1 := 18) rfl ?_
    refine g_getf (n_q md_186 rfl) t_199 rfl ?_
    obtain ⟨s5, hs5, H⟩ := g_bind H
    refine n_call (n_q md_186 rfl) (As := [.ref 199, .int (s2 199 13)]) (rest := []) rfl rfl (Nat.le_of_ble_eq_true rfl) rfl (g_recv (b := 0) rfl t_199 rfl) (C182 (by omega) hs5) ?_
    refine g_go 1 md_186 (i1 := 21) rfl ?_
    refine g_getr 238 (n_q md_186 rfl) t_199 rfl ?_
    refine g_go 1 md_186 (i1 := 23) rfl ?_
    obtain ⟨h6, H⟩ := g_gd H
    refine g_iald (n_q md_186 rfl) t_238 h6 ?_
    cases H
    exact n_iret (n_q md_186 rfl) (Or.inl rfl)
  · rw [if_neg h3] at H
    refine n_ifF (n_q md_186 rfl) (fun e1 => h3 (of_decide_eq_true e1)) ?_
    refine g_go 1 md_186 (i1 := 15) rfl ?_
    cases H
    exact n_iret (n_q md_186 rfl) (Or.inl rfl)
noncomputable def f186 (s : g_S) (p1 : Int32) : Option (Int32 × g_S) := (g_let (g_w s 199 0 0) fun s1 => (f173 s1 p1).bind fun v2 => if v2 = 0 then (f186_11 s1 p1 1) else (f186_11 s1 p1 0))
theorem C186 {d ex : Nat} {s : g_S} {p1 : Int32}  {z : Int32 × g_S} (hd : 81 < d) (H : f186 s p1 = some z) : n_C X d 186 [.ref 199, .int p1] (g_M s ex) (g_rSI z ex) := by
  obtain ⟨d, rfl⟩ : ∃ d1, d = d1 + 1 := ⟨d - 1, by omega⟩
  replace hd := Nat.le_of_lt_succ hd
  refine ⟨Nat.le_of_ble_eq_true rfl, ?_⟩
  rw [md_186]
  show n_R X (d + 1) 186 0 [some (.ref 199), some (.int p1)] [] (g_M s ex) _
  unfold f186 at H
  refine g_go 2 md_186 (i1 := 2) rfl ?_
  obtain ⟨s1, es1, H⟩ := g_letp H
  refine g_putf (n_q md_186 rfl) t_199 rfl rfl es1 ?_
  refine g_go 3 md_186 (i1 := 6) rfl ?_
  obtain ⟨v2, hv2, H⟩ := g_bind H
  refine n_callv (n_q md_186 rfl) (As := [.ref 199, .int p1]) (rest := [.ref 199]) rfl rfl (Nat.le_of_ble_eq_true rfl) rfl (g_recv (b := 0) rfl t_199 rfl) (C173 (by omega) hv2) ?_
  by_cases h3 : v2 = 0
  · rw [if_pos h3] at H
    refine n_ifF (n_q md_186 rfl) (fun e1 => of_decide_eq_true e1 h3) ?_
    refine g_go 2 md_186 (i1 := 11) rfl ?_
    exact P186_11 H hd
  · rw [if_neg h3] at H
    refine n_ifT (n_q md_186 rfl) (decide_eq_true h3) ?_
    refine g_go 1 md_186 (i1 := 11) rfl ?_
    exact P186_11 H hd

end K8
