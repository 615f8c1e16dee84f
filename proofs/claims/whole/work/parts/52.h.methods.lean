/-! METHODS, written by wip/whole/gen_51.py (7). -/
section K7
variable {X : m_X}
theorem md_163 : m_md 163 = m_X8_says := rfl
noncomputable def f163_56 (s : g_S) (p1 : Int32) (x3 : Int32) (x4 : Int32) (x5 : Int32) : Option (g_S) := (if p1 = 0 then (some s) else (if x4 = 0 then (some s) else (if x5 = 0 then (some s) else (if x3 = 0 then (g_let (g_w s 199 21 1) fun s5 => some s5) else (some s)))))
theorem P163_56 {d ex : Nat} {s : g_S} {p1 : Int32} {x3 : Int32} {x4 : Int32} {x5 : Int32} {u2 : Option Value}   {z : (g_S)} (H : f163_56 s p1 x3 x4 x5 = some z) (hd : 75 ≤ d)  : n_R X (d + 1) 163 56 [some (.ref 199), some (.int p1), u2, some (.int x3), some (.int x4), some (.int x5)] [] (g_M s ex) (g_rSV z ex) := by
  unfold f163_56 at H
  refine g_go 1 md_163 (i1 := 57) rfl ?_
  by_cases h1 : p1 = 0
  · rw [if_pos h1] at H
    refine n_ifT (n_q md_163 rfl) (decide_eq_true h1) ?_
    refine g_go 1 md_163 (i1 := 145) rfl ?_
    cases H
    exact n_end (n_q md_163 rfl) (fun _ => rfl)
  · rw [if_neg h1] at H
    refine n_ifF (n_q md_163 rfl) (fun e1 => h1 (of_decide_eq_true e1)) ?_
    refine g_go 1 md_163 (i1 := 59) rfl ?_
    by_cases h2 : x4 = 0
    · rw [if_pos h2] at H
      refine n_ifT (n_q md_163 rfl) (decide_eq_true h2) ?_
      refine g_go 1 md_163 (i1 := 145) rfl ?_
      cases H
      exact n_end (n_q md_163 rfl) (fun _ => rfl)
    · rw [if_neg h2] at H
      refine n_ifF (n_q md_163 rfl) (fun e1 => h2 (of_decide_eq_true e1)) ?_
      refine g_go 1 md_163 (i1 := 61) rfl ?_
      by_cases h3 : x5 = 0
      · rw [if_pos h3] at H
        refine n_ifT (n_q md_163 rfl) (decide_eq_true h3) ?_
        refine g_go 1 md_163 (i1 := 145) rfl ?_
        cases H
        exact n_end (n_q md_163 rfl) (fun _ => rfl)
      · rw [if_neg h3] at H
        refine n_ifF (n_q md_163 rfl) (fun e1 => h3 (of_decide_eq_true e1)) ?_
        refine g_go 1 md_163 (i1 := 63) rfl ?_
        by_cases h4 : x3 = 0
        · rw [if_pos h4] at H
          refine n_ifF (n_q md_163 rfl) (fun e1 => of_decide_eq_true e1 h4) ?_
          refine g_go 2 md_163 (i1 := 66) rfl ?_
          obtain ⟨s5, es5, H⟩ := g_letp H
          refine g_putf (n_q md_163 rfl) t_199 rfl rfl es5 ?_
          refine g_go 1 md_163 (i1 := 145) rfl ?_
          cases H
          exact n_end (n_q md_163 rfl) (fun _ => rfl)
        · rw [if_neg h4] at H
          refine n_ifT (n_q md_163 rfl) (decide_eq_true h4) ?_
          refine g_go 1 md_163 (i1 := 145) rfl ?_
          cases H
          exact n_end (n_q md_163 rfl) (fun _ => rfl)
noncomputable def f163_45 (s : g_S) (p1 : Int32) (x3 : Int32) (x4 : Int32) (x5 : Int32) : Option (g_S) := (if p1 = 0 then (f163_56 s p1 x3 x4 x5) else (if x4 = 0 then (f163_56 s p1 x3 x4 x5) else (if x5 = 0 then (f163_56 s p1 x3 x4 x5) else (if x3 = 0 then (f163_56 s p1 x3 x4 x5) else (g_let (g_w s 199 22 1) fun s5 => f163_56 s5 p1 x3 x4 x5)))))
theorem P163_45 {d ex : Nat} {s : g_S} {p1 : Int32} {x3 : Int32} {x4 : Int32} {x5 : Int32} {u2 : Option Value}   {z : (g_S)} (H : f163_45 s p1 x3 x4 x5 = some z) (hd : 75 ≤ d)  : n_R X (d + 1) 163 45 [some (.ref 199), some (.int p1), u2, some (.int x3), some (.int x4), some (.int x5)] [] (g_M s ex) (g_rSV z ex) := by
  unfold f163_45 at H
  refine g_go 1 md_163 (i1 := 46) rfl ?_
  by_cases h1 : p1 = 0
  · rw [if_pos h1] at H
    refine n_ifT (n_q md_163 rfl) (decide_eq_true h1) ?_
    exact P163_56 H hd
  · rw [if_neg h1] at H
    refine n_ifF (n_q md_163 rfl) (fun e1 => h1 (of_decide_eq_true e1)) ?_
    refine g_go 1 md_163 (i1 := 48) rfl ?_
    by_cases h2 : x4 = 0
    · rw [if_pos h2] at H
      refine n_ifT (n_q md_163 rfl) (decide_eq_true h2) ?_
      exact P163_56 H hd
    · rw [if_neg h2] at H
      refine n_ifF (n_q md_163 rfl) (fun e1 => h2 (of_decide_eq_true e1)) ?_
      refine g_go 1 md_163 (i1 := 50) rfl ?_
      by_cases h3 : x5 = 0
      · rw [if_pos h3] at H
        refine n_ifT (n_q md_163 rfl) (decide_eq_true h3) ?_
        exact P163_56 H hd
      · rw [if_neg h3] at H
        refine n_ifF (n_q md_163 rfl) (fun e1 => h3 (of_decide_eq_true e1)) ?_
        refine g_go 1 md_163 (i1 := 52) rfl ?_
        by_cases h4 : x3 = 0
        · rw [if_pos h4] at H
          refine n_ifT (n_q md_163 rfl) (decide_eq_true h4) ?_
          exact P163_56 H hd
        · rw [if_neg h4] at H
          refine n_ifF (n_q md_163 rfl) (fun e1 => h4 (of_decide_eq_true e1)) ?_
          refine g_go 2 md_163 (i1 := 55) rfl ?_
          obtain ⟨s5, es5, H⟩ := g_letp H
          refine g_putf (n_q md_163 rfl) t_199 rfl rfl es5 ?_
          exact P163_56 H hd
noncomputable def f163_21 (s : g_S) (p1 : Int32) (x3 : Int32) : Option (g_S) := ((f147 s).bind fun s2 => g_bd (f159 s2) fun v3 s4 => if (s4 199 6) = 0 then (g_bd (f146 s4 9 6 0 0 0 0) fun v6 s7 => if v6 = 0 then (f163_45 s7 p1 x3 v3 1) else ((f147 s7).bind fun s10 => g_bd (f156c s10) fun v11 s12 => f163_45 s12 p1 x3 v3 v11)) else (f163_45 s4 p1 x3 v3 1))
theorem P163_21 {d ex : Nat} {s : g_S} {p1 : Int32} {x3 : Int32} {u2 u4 u5 : Option Value}   {z : (g_S)} (H : f163_21 s p1 x3 = some z) (hd : 75 ≤ d)  : n_R X (d + 1) 163 21 [some (.ref 199), some (.int p1), u2, some (.int x3), u4, u5] [] (g_M s ex) (g_rSV z ex) := by
  unfold f163_21 at H
  refine g_go 1 md_163 (i1 := 22) rfl ?_
  obtain ⟨s2, hs2, H⟩ := g_bind H
  refine n_call (n_q md_163 rfl) (As := [.ref 199]) (rest := []) rfl rfl (Nat.le_of_ble_eq_true rfl) rfl (g_recv (b := 0) rfl t_199 rfl) (C147 (by omega) hs2) ?_
  refine g_go 1 md_163 (i1 := 24) rfl ?_
  obtain ⟨v3, s4, hv3, H⟩ := g_bdp H
  refine n_callv (n_q md_163 rfl) (As := [.ref 199]) (rest := []) rfl rfl (Nat.le_of_ble_eq_true rfl) rfl (g_recv (b := 0) rfl t_199 rfl) (C159 (by omega) hv3) ?_
  refine g_go 4 md_163 (i1 := 29) (ls1 := [some (.ref 199), some (.int p1), u2, some (.int x3), some (.int v3), some (.int 1)]) rfl ?_
  refine g_getf (n_q md_163 rfl) t_199 rfl ?_
  by_cases h5 : (s4 199 6) = 0
  · rw [if_pos h5] at H
    refine n_ifF (n_q md_163 rfl) (fun e1 => of_decide_eq_true e1 h5) ?_
    refine g_go 7 md_163 (i1 := 38) rfl ?_
    obtain ⟨v6, s7, hv6, H⟩ := g_bdp H
    refine n_callv (n_q md_163 rfl) (As := [.ref 199, .int 9, .int 6, .int 0, .int 0, .int 0, .int 0]) (rest := []) rfl rfl (Nat.le_of_ble_eq_true rfl) rfl (g_recv (b := 0) rfl t_199 rfl) (C146 (by omega) hv6) ?_
    by_cases h8 : v6 = 0
    · rw [if_pos h8] at H
      refine n_ifT (n_q md_163 rfl) (decide_eq_true h8) ?_
      exact P163_45 H hd
    · rw [if_neg h8] at H
      refine n_ifF (n_q md_163 rfl) (fun e1 => h8 (of_decide_eq_true e1)) ?_
      refine g_go 1 md_163 (i1 := 41) rfl ?_
      obtain ⟨s10, hs10, H⟩ := g_bind H
      refine n_call (n_q md_163 rfl) (As := [.ref 199]) (rest := []) rfl rfl (Nat.le_of_ble_eq_true rfl) rfl (g_recv (b := 0) rfl t_199 rfl) (C147 (by omega) hs10) ?_
      refine g_go 1 md_163 (i1 := 43) rfl ?_
      obtain ⟨v11, s12, hv11, H⟩ := g_bdp H
      refine n_callv (n_q md_163 rfl) (As := [.ref 199]) (rest := []) rfl rfl (Nat.le_of_ble_eq_true rfl) rfl (g_recv (b := 0) rfl t_199 rfl) (C156c (by omega) hv11) ?_
      refine g_go 1 md_163 (i1 := 45) (ls1 := [some (.ref 199), some (.int p1), u2, some (.int x3), some (.int v3), some (.int v11)]) rfl ?_
      exact P163_45 H hd
  · rw [if_neg h5] at H
    refine n_ifT (n_q md_163 rfl) (decide_eq_true h5) ?_
    exact P163_45 H hd
noncomputable def f163_138 (s : g_S) (p1 : Int32) (y1 : Int32) : Option (g_S) := (if m_isb y1 = true then g_let (g_w s 199 25 y1) fun s1 => some s1 else none)
theorem P163_138 {d ex : Nat} {s : g_S} {p1 : Int32} {y1 : Int32} {u2 u3 u4 u5 : Option Value}   {z : (g_S)} (H : f163_138 s p1 y1 = some z) (hd : 75 ≤ d)  : n_R X (d + 1) 163 138 [some (.ref 199), some (.int p1), u2, u3, u4, u5] [.int y1, .ref 199] (g_M s ex) (g_rSV z ex) := by
  unfold f163_138 at H
  obtain ⟨hb2, H⟩ := g_gd H
  obtain ⟨s1, es1, H⟩ := g_letp H
  refine g_putf (n_q md_163 rfl) t_199 rfl (g_fit1 hb2) es1 ?_
  refine g_go 1 md_163 (i1 := 145) rfl ?_
  cases H
  exact n_end (n_q md_163 rfl) (fun _ => rfl)
noncomputable def f163_135 (s : g_S) (p1 : Int32) : Option (g_S) := (f163_138 s p1 1)
theorem P163_135 {d ex : Nat} {s : g_S} {p1 : Int32} {u2 u3 u4 u5 : Option Value}   {z : (g_S)} (H : f163_135 s p1 = some z) (hd : 75 ≤ d)  : n_R X (d + 1) 163 135 [some (.ref 199), some (.int p1), u2, u3, u4, u5] [.ref 199] (g_M s ex) (g_rSV z ex) := by
  unfold f163_135 at H
  refine g_go 2 md_163 (i1 := 138) rfl ?_
  exact P163_138 H hd
noncomputable def f163_116 (s : g_S) (p1 : Int32) (y1 : Int32) : Option (g_S) := (if m_isb y1 = true then g_let (g_w s 199 24 y1) fun s1 => some s1 else none)
theorem P163_116 {d ex : Nat} {s : g_S} {p1 : Int32} {y1 : Int32} {u2 u3 u4 u5 : Option Value}   {z : (g_S)} (H : f163_116 s p1 y1 = some z) (hd : 75 ≤ d)  : n_R X (d + 1) 163 116 [some (.ref 199), some (.int p1), u2, u3, u4, u5] [.int y1, .ref 199] (g_M s ex) (g_rSV z ex) := by
  unfold f163_116 at H
  obtain ⟨hb2, H⟩ := g_gd H
  obtain ⟨s1, es1, H⟩ := g_letp H
  refine g_putf (n_q md_163 rfl) t_199 rfl (g_fit1 hb2) es1 ?_
  refine g_go 1 md_163 (i1 := 145) rfl ?_
  cases H
  exact n_end (n_q md_163 rfl) (fun _ => rfl)
noncomputable def f163_113 (s : g_S) (p1 : Int32) : Option (g_S) := (f163_116 s p1 1)
theorem P163_113 {d ex : Nat} {s : g_S} {p1 : Int32} {u2 u3 u4 u5 : Option Value}   {z : (g_S)} (H : f163_113 s p1 = some z) (hd : 75 ≤ d)  : n_R X (d + 1) 163 113 [some (.ref 199), some (.int p1), u2, u3, u4, u5] [.ref 199] (g_M s ex) (g_rSV z ex) := by
  unfold f163_113 at H
  refine g_go 2 md_163 (i1 := 116) rfl ?_
  exact P163_116 H hd
noncomputable def f163_115 (s : g_S) (p1 : Int32) : Option (g_S) := (f163_116 s p1 0)
theorem P163_115 {d ex : Nat} {s : g_S} {p1 : Int32} {u2 u3 u4 u5 : Option Value}   {z : (g_S)} (H : f163_115 s p1 = some z) (hd : 75 ≤ d)  : n_R X (d + 1) 163 115 [some (.ref 199), some (.int p1), u2, u3, u4, u5] [.ref 199] (g_M s ex) (g_rSV z ex) := by
  unfold f163_115 at H
  refine g_go 1 md_163 (i1 := 116) rfl ?_
  exact P163_116 H hd
noncomputable def f163_15 (s : g_S) (p1 : Int32) (x2 : Int32) (y0 : Int32) : Option (g_S) := (if x2 = ((-2)) then (f163_21 s p1 y0) else (if y0 = 0 then ((f145 s 15 23 5 19 0 0).bind fun v3 => if x2 = v3 then ((f147 s).bind fun s6 => g_bd (f153c s6) fun v7 s8 => if p1 = 0 then (some s8) else (g_let (g_w s8 199 23 1) fun s10 => g_let (g_w s10 199 19 v7) fun s11 => some s11)) else ((f145 s 12 5 20 19 0 0).bind fun v5 => if x2 = v5 then ((f147 s).bind fun s8 => g_bd (f160 s8) fun v9 s10 => if (s10 199 24) = 0 then (if p1 = 0 then (f163_115 s10 p1) else (if v9 = 0 then (f163_115 s10 p1) else (f163_113 s10 p1))) else (f163_113 s10 p1)) else ((f145 s 20 23 9 3 5 0).bind fun v7 => if x2 = v7 then ((f147 s).bind fun s10 => if (s10 199 25) = 0 then (if p1 = 0 then (f163_138 s10 p1 0) else (f163_135 s10 p1)) else (f163_135 s10 p1)) else ((f140 s 1 (s 199 4)).bind fun s10 => some s10)))) else (f163_21 s p1 y0)))
theorem P163_15 {d ex : Nat} {s : g_S} {p1 : Int32} {x2 : Int32} {y0 : Int32} {u3 u4 u5 : Option Value}   {z : (g_S)} (H : f163_15 s p1 x2 y0 = some z) (hd : 75 ≤ d)  : n_R X (d + 1) 163 15 [some (.ref 199), some (.int p1), some (.int x2), u3, u4, u5] [.int y0] (g_M s ex) (g_rSV z ex) := by
  unfold f163_15 at H
  refine g_go 3 md_163 (i1 := 18) (ls1 := [some (.ref 199), some (.int p1), some (.int x2), some (.int y0), u4, u5]) rfl ?_
  by_cases h1 : x2 = ((-2))
  · rw [if_pos h1] at H
    refine n_cmpT (n_q md_163 rfl) (decide_eq_true h1) ?_
    exact P163_21 H hd
  · rw [if_neg h1] at H
    refine n_cmpF (n_q md_163 rfl) (fun e1 => h1 (of_decide_eq_true e1)) ?_
    refine g_go 1 md_163 (i1 := 20) rfl ?_
    by_cases h2 : y0 = 0
    · rw [if_pos h2] at H
      refine n_ifT (n_q md_163 rfl) (decide_eq_true h2) ?_
      refine g_go 7 md_163 (i1 := 75) rfl ?_
      obtain ⟨v3, hv3, H⟩ := g_bind H
      refine n_callv (n_q md_163 rfl) (As := [.int 15, .int 23, .int 5, .int 19, .int 0, .int 0]) (rest := [.int x2]) rfl rfl (Nat.le_of_ble_eq_true rfl) rfl rfl (C145 (by omega) hv3) ?_
      by_cases h4 : x2 = v3
      · rw [if_pos h4] at H
        refine n_cmpF (n_q md_163 rfl) (fun e1 => of_decide_eq_true e1 h4) ?_
        refine g_go 1 md_163 (i1 := 78) rfl ?_
        obtain ⟨s6, hs6, H⟩ := g_bind H
        refine n_call (n_q md_163 rfl) (As := [.ref 199]) (rest := []) rfl rfl (Nat.le_of_ble_eq_true rfl) rfl (g_recv (b := 0) rfl t_199 rfl) (C147 (by omega) hs6) ?_
        refine g_go 1 md_163 (i1 := 80) rfl ?_
        obtain ⟨v7, s8, hv7, H⟩ := g_bdp H
        refine n_callv (n_q md_163 rfl) (As := [.ref 199]) (rest := []) rfl rfl (Nat.le_of_ble_eq_true rfl) rfl (g_recv (b := 0) rfl t_199 rfl) (C153c (by omega) hv7) ?_
        refine g_go 2 md_163 (i1 := 83) (ls1 := [some (.ref 199), some (.int p1), some (.int x2), some (.int y0), some (.int v7), u5]) rfl ?_
        by_cases h9 : p1 = 0
        · rw [if_pos h9] at H
          refine n_ifT (n_q md_163 rfl) (decide_eq_true h9) ?_
          refine g_go 1 md_163 (i1 := 145) rfl ?_
          cases H
          exact n_end (n_q md_163 rfl) (fun _ => rfl)
        · rw [if_neg h9] at H
          refine n_ifF (n_q md_163 rfl) (fun e1 => h9 (of_decide_eq_true e1)) ?_
          refine g_go 2 md_163 (i1 := 86) rfl ?_
          obtain ⟨s10, es10, H⟩ := g_letp H
          refine g_putf (n_q md_163 rfl) t_199 rfl rfl es10 ?_
          refine g_go 2 md_163 (i1 := 89) rfl ?_
          obtain ⟨s11, es11, H⟩ := g_letp H
          refine g_putf (n_q md_163 rfl) t_199 rfl rfl es11 ?_
          refine g_go 1 md_163 (i1 := 145) rfl ?_
          cases H
          exact n_end (n_q md_163 rfl) (fun _ => rfl)
      · rw [if_neg h4] at H
        refine n_cmpT (n_q md_163 rfl) (decide_eq_true h4) ?_
        refine g_go 7 md_163 (i1 := 98) rfl ?_
        obtain ⟨v5, hv5, H⟩ := g_bind H
        refine n_callv (n_q md_163 rfl) (As := [.int 12, .int 5, .int 20, .int 19, .int 0, .int 0]) (rest := [.int x2]) rfl rfl (Nat.le_of_ble_eq_true rfl) rfl rfl (C145 (by omega) hv5) ?_
        by_cases h6 : x2 = v5
        · rw [if_pos h6] at H
          refine n_cmpF (n_q md_163 rfl) (fun e1 => of_decide_eq_true e1 h6) ?_
          refine g_go 1 md_163 (i1 := 101) rfl ?_
          obtain ⟨s8, hs8, H⟩ := g_bind H
          refine n_call (n_q md_163 rfl) (As := [.ref 199]) (rest := []) rfl rfl (Nat.le_of_ble_eq_true rfl) rfl (g_recv (b := 0) rfl t_199 rfl) (C147 (by omega) hs8) ?_
          refine g_go 1 md_163 (i1 := 103) rfl ?_
          obtain ⟨v9, s10, hv9, H⟩ := g_bdp H
          refine n_callv (n_q md_163 rfl) (As := [.ref 199]) (rest := []) rfl rfl (Nat.le_of_ble_eq_true rfl) rfl (g_recv (b := 0) rfl t_199 rfl) (C160 (by omega) hv9) ?_
          refine g_go 3 md_163 (i1 := 107) (ls1 := [some (.ref 199), some (.int p1), some (.int x2), some (.int y0), some (.int v9), u5]) rfl ?_
          refine g_getf (n_q md_163 rfl) t_199 rfl ?_
          by_cases h11 : (s10 199 24) = 0
          · rw [if_pos h11] at H
            refine n_ifF (n_q md_163 rfl) (fun e1 => of_decide_eq_true e1 h11) ?_
            refine g_go 1 md_163 (i1 := 110) rfl ?_
            by_cases h12 : p1 = 0
            · rw [if_pos h12] at H
              refine n_ifT (n_q md_163 rfl) (decide_eq_true h12) ?_
              exact P163_115 H hd
            · rw [if_neg h12] at H
              refine n_ifF (n_q md_163 rfl) (fun e1 => h12 (of_decide_eq_true e1)) ?_
              refine g_go 1 md_163 (i1 := 112) rfl ?_
              by_cases h13 : v9 = 0
              · rw [if_pos h13] at H
                refine n_ifT (n_q md_163 rfl) (decide_eq_true h13) ?_
                exact P163_115 H hd
              · rw [if_neg h13] at H
                refine n_ifF (n_q md_163 rfl) (fun e1 => h13 (of_decide_eq_true e1)) ?_
                exact P163_113 H hd
          · rw [if_neg h11] at H
            refine n_ifT (n_q md_163 rfl) (decide_eq_true h11) ?_
            exact P163_113 H hd
        · rw [if_neg h6] at H
          refine n_cmpT (n_q md_163 rfl) (decide_eq_true h6) ?_
          refine g_go 7 md_163 (i1 := 125) rfl ?_
          obtain ⟨v7, hv7, H⟩ := g_bind H
          refine n_callv (n_q md_163 rfl) (As := [.int 20, .int 23, .int 9, .int 3, .int 5, .int 0]) (rest := [.int x2]) rfl rfl (Nat.le_of_ble_eq_true rfl) rfl rfl (C145 (by omega) hv7) ?_
          by_cases h8 : x2 = v7
          · rw [if_pos h8] at H
            refine n_cmpF (n_q md_163 rfl) (fun e1 => of_decide_eq_true e1 h8) ?_
            refine g_go 1 md_163 (i1 := 128) rfl ?_
            obtain ⟨s10, hs10, H⟩ := g_bind H
            refine n_call (n_q md_163 rfl) (As := [.ref 199]) (rest := []) rfl rfl (Nat.le_of_ble_eq_true rfl) rfl (g_recv (b := 0) rfl t_199 rfl) (C147 (by omega) hs10) ?_
            refine g_go 2 md_163 (i1 := 131) rfl ?_
            refine g_getf (n_q md_163 rfl) t_199 rfl ?_
            by_cases h11 : (s10 199 25) = 0
            · rw [if_pos h11] at H
              refine n_ifF (n_q md_163 rfl) (fun e1 => of_decide_eq_true e1 h11) ?_
              refine g_go 1 md_163 (i1 := 134) rfl ?_
              by_cases h12 : p1 = 0
              · rw [if_pos h12] at H
                refine n_ifT (n_q md_163 rfl) (decide_eq_true h12) ?_
                refine g_go 1 md_163 (i1 := 138) rfl ?_
                exact P163_138 H hd
              · rw [if_neg h12] at H
                refine n_ifF (n_q md_163 rfl) (fun e1 => h12 (of_decide_eq_true e1)) ?_
                exact P163_135 H hd
            · rw [if_neg h11] at H
              refine n_ifT (n_q md_163 rfl) (decide_eq_true h11) ?_
              exact P163_135 H hd
          · rw [if_neg h8] at H
            refine n_cmpT (n_q md_163 rfl) (decide_eq_true h8) ?_
            refine g_go 3 md_163 (i1 := 143) rfl ?_
            refine g_getf (n_q md_163 rfl) t_199 rfl ?_
            obtain ⟨s10, hs10, H⟩ := g_bind H
            refine n_call (n_q md_163 rfl) (As := [.ref 199, .int 1, .int (s 199 4)]) (rest := []) rfl rfl (Nat.le_of_ble_eq_true rfl) rfl (g_recv (b := 0) rfl t_199 rfl) (C140 (by omega) hs10) ?_
            cases H
            exact n_end (n_q md_163 rfl) (fun _ => rfl)
    · rw [if_neg h2] at H
      refine n_ifF (n_q md_163 rfl) (fun e1 => h2 (of_decide_eq_true e1)) ?_
      exact P163_21 H hd
noncomputable def f163 (s : g_S) (p1 : Int32) : Option (g_S) := (g_bd (f143 s) fun v1 s2 => (f145 s2 19 23 5 1 18 19).bind fun v3 => if v1 = v3 then (f163_15 s2 p1 v1 1) else (f163_15 s2 p1 v1 0))
theorem C163 {d ex : Nat} {s : g_S} {p1 : Int32}  {z : g_S} (hd : 75 < d) (H : f163 s p1 = some z) : n_C X d 163 [.ref 199, .int p1] (g_M s ex) (g_rSV z ex) := by
  obtain ⟨d, rfl⟩ : ∃ d1, d = d1 + 1 := ⟨d - 1, by omega⟩
  replace hd := Nat.le_of_lt_succ hd
  refine ⟨Nat.le_of_ble_eq_true rfl, ?_⟩
  rw [md_163]
  show n_R X (d + 1) 163 0 [some (.ref 199), some (.int p1), none, none, none, none] [] (g_M s ex) _
  unfold f163 at H
  refine g_go 1 md_163 (i1 := 1) rfl ?_
  obtain ⟨v1, s2, hv1, H⟩ := g_bdp H
  refine n_callv (n_q md_163 rfl) (As := [.ref 199]) (rest := []) rfl rfl (Nat.le_of_ble_eq_true rfl) rfl (g_recv (b := 0) rfl t_199 rfl) (C143 (by omega) hv1) ?_
  refine g_go 8 md_163 (i1 := 10) (ls1 := [some (.ref 199), some (.int p1), some (.int v1), none, none, none]) rfl ?_
  obtain ⟨v3, hv3, H⟩ := g_bind H
  refine n_callv (n_q md_163 rfl) (As := [.int 19, .int 23, .int 5, .int 1, .int 18, .int 19]) (rest := [.int v1]) rfl rfl (Nat.le_of_ble_eq_true rfl) rfl rfl (C145 (by omega) hv3) ?_
  by_cases h4 : v1 = v3
  · rw [if_pos h4] at H
    refine n_cmpF (n_q md_163 rfl) (fun e1 => of_decide_eq_true e1 h4) ?_
    refine g_go 2 md_163 (i1 := 15) rfl ?_
    exact P163_15 H hd
  · rw [if_neg h4] at H
    refine n_cmpT (n_q md_163 rfl) (decide_eq_true h4) ?_
    refine g_go 1 md_163 (i1 := 15) rfl ?_
    exact P163_15 H hd

theorem md_161 : m_md 161 = m_X8_clause := rfl
noncomputable def f161_68 (s : g_S) : Option (g_S) := (g_let (g_w s 199 18 ((s 199 18) + 1)) fun s1 => some s1)
theorem P161_68 {d ex : Nat} {s : g_S} {u1 u2 : Option Value}   {z : (g_S)} (H : f161_68 s = some z) (hd : 76 ≤ d)  : n_R X (d + 1) 161 68 [some (.ref 199), u1, u2] [] (g_M s ex) (g_rSV z ex) := by
  unfold f161_68 at H
  refine g_go 2 md_161 (i1 := 70) rfl ?_
  refine g_getf (n_q md_161 rfl) t_199 rfl ?_
  refine g_go 2 md_161 (i1 := 73) rfl ?_
  obtain ⟨s1, es1, H⟩ := g_letp H
  refine g_putf (n_q md_161 rfl) t_199 rfl rfl es1 ?_
  cases H
  exact n_end (n_q md_161 rfl) (fun _ => rfl)
noncomputable def f161_62 (s : g_S) : Option (g_S) := (if (s 199 6) = 0 then ((f148 s 59).bind fun s3 => f161_68 s3) else (f161_68 s))
theorem P161_62 {d ex : Nat} {s : g_S} {u1 u2 : Option Value}   {z : (g_S)} (H : f161_62 s = some z) (hd : 76 ≤ d)  : n_R X (d + 1) 161 62 [some (.ref 199), u1, u2] [] (g_M s ex) (g_rSV z ex) := by
  unfold f161_62 at H
  refine g_go 1 md_161 (i1 := 63) rfl ?_
  refine g_getf (n_q md_161 rfl) t_199 rfl ?_
  by_cases h1 : (s 199 6) = 0
  · rw [if_pos h1] at H
    refine n_ifF (n_q md_161 rfl) (fun e1 => of_decide_eq_true e1 h1) ?_
    refine g_go 2 md_161 (i1 := 67) rfl ?_
    obtain ⟨s3, hs3, H⟩ := g_bind H
    refine n_call (n_q md_161 rfl) (As := [.ref 199, .int 59]) (rest := []) rfl rfl (Nat.le_of_ble_eq_true rfl) rfl (g_recv (b := 0) rfl t_199 rfl) (C148 (by omega) hs3) ?_
    exact P161_68 H hd
  · rw [if_neg h1] at H
    refine n_ifT (n_q md_161 rfl) (decide_eq_true h1) ?_
    exact P161_68 H hd
noncomputable def f161_61 (s : g_S) (y1 : Int32) : Option (g_S) := ((f163 s y1).bind fun s2 => f161_62 s2)
theorem P161_61 {d ex : Nat} {s : g_S} {y1 : Int32} {u1 u2 : Option Value}   {z : (g_S)} (H : f161_61 s y1 = some z) (hd : 76 ≤ d)  : n_R X (d + 1) 161 61 [some (.ref 199), u1, u2] [.int y1, .ref 199] (g_M s ex) (g_rSV z ex) := by
  unfold f161_61 at H
  obtain ⟨s2, hs2, H⟩ := g_bind H
  refine n_call (n_q md_161 rfl) (As := [.ref 199, .int y1]) (rest := []) rfl rfl (Nat.le_of_ble_eq_true rfl) rfl (g_recv (b := 0) rfl t_199 rfl) (C163 (by omega) hs2) ?_
  exact P161_62 H hd
noncomputable def f161_58 (s : g_S) : Option (g_S) := (f161_61 s 1)
theorem P161_58 {d ex : Nat} {s : g_S} {u1 u2 : Option Value}   {z : (g_S)} (H : f161_58 s = some z) (hd : 76 ≤ d)  : n_R X (d + 1) 161 58 [some (.ref 199), u1, u2] [.ref 199] (g_M s ex) (g_rSV z ex) := by
  unfold f161_58 at H
  refine g_go 2 md_161 (i1 := 61) rfl ?_
  exact P161_61 H hd
noncomputable def f161_39 (s : g_S) (x1 : Int32) (x2 : Int32) : Option (g_S) := (if (s 199 6) = 0 then ((f147 s).bind fun s3 => if x2 = 0 then (if x1 = 6 then (f161_58 s3) else (if x1 = (s3 199 15) then (f161_58 s3) else (f161_61 s3 0))) else ((f162 s3).bind fun s6 => f161_62 s6)) else (some s))
theorem P161_39 {d ex : Nat} {s : g_S} {x1 : Int32} {x2 : Int32}   {z : (g_S)} (H : f161_39 s x1 x2 = some z) (hd : 76 ≤ d)  : n_R X (d + 1) 161 39 [some (.ref 199), some (.int x1), some (.int x2)] [] (g_M s ex) (g_rSV z ex) := by
  unfold f161_39 at H
  refine g_go 1 md_161 (i1 := 40) rfl ?_
  refine g_getf (n_q md_161 rfl) t_199 rfl ?_
  by_cases h1 : (s 199 6) = 0
  · rw [if_pos h1] at H
    refine n_ifT (n_q md_161 rfl) (decide_eq_true h1) ?_
    refine g_go 1 md_161 (i1 := 44) rfl ?_
    obtain ⟨s3, hs3, H⟩ := g_bind H
    refine n_call (n_q md_161 rfl) (As := [.ref 199]) (rest := []) rfl rfl (Nat.le_of_ble_eq_true rfl) rfl (g_recv (b := 0) rfl t_199 rfl) (C147 (by omega) hs3) ?_
    refine g_go 1 md_161 (i1 := 46) rfl ?_
    by_cases h4 : x2 = 0
    · rw [if_pos h4] at H
      refine n_ifT (n_q md_161 rfl) (decide_eq_true h4) ?_
      refine g_go 3 md_161 (i1 := 53) rfl ?_
      by_cases h5 : x1 = 6
      · rw [if_pos h5] at H
        refine n_cmpT (n_q md_161 rfl) (decide_eq_true h5) ?_
        exact P161_58 H hd
      · rw [if_neg h5] at H
        refine n_cmpF (n_q md_161 rfl) (fun e1 => h5 (of_decide_eq_true e1)) ?_
        refine g_go 2 md_161 (i1 := 56) rfl ?_
        refine g_getf (n_q md_161 rfl) t_199 rfl ?_
        by_cases h6 : x1 = (s3 199 15)
        · rw [if_pos h6] at H
          refine n_cmpF (n_q md_161 rfl) (fun e1 => of_decide_eq_true e1 h6) ?_
          exact P161_58 H hd
        · rw [if_neg h6] at H
          refine n_cmpT (n_q md_161 rfl) (decide_eq_true h6) ?_
          refine g_go 1 md_161 (i1 := 61) rfl ?_
          exact P161_61 H hd
    · rw [if_neg h4] at H
      refine n_ifF (n_q md_161 rfl) (fun e1 => h4 (of_decide_eq_true e1)) ?_
      refine g_go 1 md_161 (i1 := 48) rfl ?_
      obtain ⟨s6, hs6, H⟩ := g_bind H
      refine n_call (n_q md_161 rfl) (As := [.ref 199]) (rest := []) rfl rfl (Nat.le_of_ble_eq_true rfl) rfl (g_recv (b := 0) rfl t_199 rfl) (C162 (by omega) hs6) ?_
      refine g_go 1 md_161 (i1 := 62) rfl ?_
      exact P161_62 H hd
  · rw [if_neg h1] at H
    refine n_ifF (n_q md_161 rfl) (fun e1 => h1 (of_decide_eq_true e1)) ?_
    cases H
    exact n_end (n_q md_161 rfl) (fun _ => rfl)
noncomputable def f161_30 (s : g_S) (x1 : Int32) (x2 : Int32) : Option (g_S) := (if (s 199 18) = 24 then ((f140 s 3 (s 199 4)).bind fun s3 => f161_39 s3 x1 x2) else (f161_39 s x1 x2))
theorem P161_30 {d ex : Nat} {s : g_S} {x1 : Int32} {x2 : Int32}   {z : (g_S)} (H : f161_30 s x1 x2 = some z) (hd : 76 ≤ d)  : n_R X (d + 1) 161 30 [some (.ref 199), some (.int x1), some (.int x2)] [] (g_M s ex) (g_rSV z ex) := by
  unfold f161_30 at H
  refine g_go 1 md_161 (i1 := 31) rfl ?_
  refine g_getf (n_q md_161 rfl) t_199 rfl ?_
  refine g_go 1 md_161 (i1 := 33) rfl ?_
  by_cases h1 : (s 199 18) = 24
  · rw [if_pos h1] at H
    refine n_cmpF (n_q md_161 rfl) (fun e1 => of_decide_eq_true e1 h1) ?_
    refine g_go 3 md_161 (i1 := 37) rfl ?_
    refine g_getf (n_q md_161 rfl) t_199 rfl ?_
    obtain ⟨s3, hs3, H⟩ := g_bind H
    refine n_call (n_q md_161 rfl) (As := [.ref 199, .int 3, .int (s 199 4)]) (rest := []) rfl rfl (Nat.le_of_ble_eq_true rfl) rfl (g_recv (b := 0) rfl t_199 rfl) (C140 (by omega) hs3) ?_
    exact P161_39 H hd
  · rw [if_neg h1] at H
    refine n_cmpT (n_q md_161 rfl) (decide_eq_true h1) ?_
    exact P161_39 H hd
noncomputable def f161_18 (s : g_S) (x1 : Int32) (y0 : Int32) : Option (g_S) := (if x1 = ((-1)) then (if y0 = 0 then ((f140 s 1 (s 199 4)).bind fun s4 => f161_39 s4 x1 y0) else (f161_30 s x1 y0)) else (f161_30 s x1 y0))
theorem P161_18 {d ex : Nat} {s : g_S} {x1 : Int32} {y0 : Int32} {u2 : Option Value}   {z : (g_S)} (H : f161_18 s x1 y0 = some z) (hd : 76 ≤ d)  : n_R X (d + 1) 161 18 [some (.ref 199), some (.int x1), u2] [.int y0] (g_M s ex) (g_rSV z ex) := by
  unfold f161_18 at H
  refine g_go 3 md_161 (i1 := 21) (ls1 := [some (.ref 199), some (.int x1), some (.int y0)]) rfl ?_
  by_cases h1 : x1 = ((-1))
  · rw [if_pos h1] at H
    refine n_cmpF (n_q md_161 rfl) (fun e1 => of_decide_eq_true e1 h1) ?_
    refine g_go 1 md_161 (i1 := 23) rfl ?_
    by_cases h2 : y0 = 0
    · rw [if_pos h2] at H
      refine n_ifF (n_q md_161 rfl) (fun e1 => of_decide_eq_true e1 h2) ?_
      refine g_go 3 md_161 (i1 := 27) rfl ?_
      refine g_getf (n_q md_161 rfl) t_199 rfl ?_
      obtain ⟨s4, hs4, H⟩ := g_bind H
      refine n_call (n_q md_161 rfl) (As := [.ref 199, .int 1, .int (s 199 4)]) (rest := []) rfl rfl (Nat.le_of_ble_eq_true rfl) rfl (g_recv (b := 0) rfl t_199 rfl) (C140 (by omega) hs4) ?_
      refine g_go 1 md_161 (i1 := 39) rfl ?_
      exact P161_39 H hd
    · rw [if_neg h2] at H
      refine n_ifT (n_q md_161 rfl) (decide_eq_true h2) ?_
      exact P161_30 H hd
  · rw [if_neg h1] at H
    refine n_cmpT (n_q md_161 rfl) (decide_eq_true h1) ?_
    exact P161_30 H hd
noncomputable def f161_17 (s : g_S) (x1 : Int32) : Option (g_S) := (f161_18 s x1 0)
theorem P161_17 {d ex : Nat} {s : g_S} {x1 : Int32} {u2 : Option Value}   {z : (g_S)} (H : f161_17 s x1 = some z) (hd : 76 ≤ d)  : n_R X (d + 1) 161 17 [some (.ref 199), some (.int x1), u2] [] (g_M s ex) (g_rSV z ex) := by
  unfold f161_17 at H
  refine g_go 1 md_161 (i1 := 18) rfl ?_
  exact P161_18 H hd
noncomputable def f161 (s : g_S) : Option (g_S) := (g_bd (f157 s) fun v1 s2 => if v1 = ((-1)) then (g_bd (f146 s2 13 9 24 5 4 0) fun v4 s5 => if v4 = 0 then (f161_17 s5 v1) else (f161_18 s5 v1 1)) else (f161_17 s2 v1))
theorem C161 {d ex : Nat} {s : g_S}  {z : g_S} (hd : 76 < d) (H : f161 s = some z) : n_C X d 161 [.ref 199] (g_M s ex) (g_rSV z ex) := by
  obtain ⟨d, rfl⟩ : ∃ d1, d = d1 + 1 := ⟨d - 1, by omega⟩
  replace hd := Nat.le_of_lt_succ hd
  refine ⟨Nat.le_of_ble_eq_true rfl, ?_⟩
  rw [md_161]
  show n_R X (d + 1) 161 0 [some (.ref 199), none, none] [] (g_M s ex) _
  unfold f161 at H
  refine g_go 1 md_161 (i1 := 1) rfl ?_
  obtain ⟨v1, s2, hv1, H⟩ := g_bdp H
  refine n_callv (n_q md_161 rfl) (As := [.ref 199]) (rest := []) rfl rfl (Nat.le_of_ble_eq_true rfl) rfl (g_recv (b := 0) rfl t_199 rfl) (C157 (by omega) hv1) ?_
  refine g_go 3 md_161 (i1 := 5) (ls1 := [some (.ref 199), some (.int v1), none]) rfl ?_
  by_cases h3 : v1 = ((-1))
  · rw [if_pos h3] at H
    refine n_cmpF (n_q md_161 rfl) (fun e1 => of_decide_eq_true e1 h3) ?_
    refine g_go 7 md_161 (i1 := 13) rfl ?_
    obtain ⟨v4, s5, hv4, H⟩ := g_bdp H
    refine n_callv (n_q md_161 rfl) (As := [.ref 199, .int 13, .int 9, .int 24, .int 5, .int 4, .int 0]) (rest := []) rfl rfl (Nat.le_of_ble_eq_true rfl) rfl (g_recv (b := 0) rfl t_199 rfl) (C146 (by omega) hv4) ?_
    by_cases h6 : v4 = 0
    · rw [if_pos h6] at H
      refine n_ifT (n_q md_161 rfl) (decide_eq_true h6) ?_
      exact P161_17 H hd
    · rw [if_neg h6] at H
      refine n_ifF (n_q md_161 rfl) (fun e1 => h6 (of_decide_eq_true e1)) ?_
      refine g_go 2 md_161 (i1 := 18) rfl ?_
      exact P161_18 H hd
  · rw [if_neg h3] at H
    refine n_cmpT (n_q md_161 rfl) (decide_eq_true h3) ?_
    exact P161_17 H hd

theorem md_164 : m_md 164 = m_X8_walks := rfl
noncomputable def f164_38 (s : g_S) : Option ((g_S) ⊕ (g_S)) := (if (s 199 6) = 0 then (if (s 199 4) < (s 199 2) then ((f161 s).bind fun s4 => (f139 s4).bind fun s6 => some (.inl (s6))) else (some (.inr (s)))) else (some (.inr (s))))
theorem P164_38 {d ex : Nat} {rr : m_R} {s : g_S}   {z : ((g_S) ⊕ (g_S))} (H : f164_38 s = some z) (hd : 77 ≤ d) (K0 : ∀ S : g_S, z = .inl S → n_R X (d + 1) 164 38 [some (.ref 199)] [] (g_M S ex) rr) (Kr : ∀ q, z = .inr (q) → g_rSV q ex = rr) : n_R X (d + 1) 164 38 [some (.ref 199)] [] (g_M s ex) rr := by
  unfold f164_38 at H
  refine g_go 1 md_164 (i1 := 39) rfl ?_
  refine g_getf (n_q md_164 rfl) t_199 rfl ?_
  by_cases h1 : (s 199 6) = 0
  · rw [if_pos h1] at H
    refine n_ifF (n_q md_164 rfl) (fun e1 => of_decide_eq_true e1 h1) ?_
    refine g_go 1 md_164 (i1 := 42) rfl ?_
    refine g_getf (n_q md_164 rfl) t_199 rfl ?_
    refine g_go 1 md_164 (i1 := 44) rfl ?_
    refine g_getf (n_q md_164 rfl) t_199 rfl ?_
    by_cases h2 : (s 199 4) < (s 199 2)
    · rw [if_pos h2] at H
      refine n_cmpF (n_q md_164 rfl) (fun e1 => absurd (of_decide_eq_true e1) (Int32.not_le.mpr h2)) ?_
      refine g_go 1 md_164 (i1 := 47) rfl ?_
      obtain ⟨s4, hs4, H⟩ := g_bind H
      refine n_call (n_q md_164 rfl) (As := [.ref 199]) (rest := []) rfl rfl (Nat.le_of_ble_eq_true rfl) rfl (g_recv (b := 0) rfl t_199 rfl) (C161 (by omega) hs4) ?_
      refine g_go 1 md_164 (i1 := 49) rfl ?_
      obtain ⟨s6, hs6, H⟩ := g_bind H
      refine n_call (n_q md_164 rfl) (As := [.ref 199]) (rest := []) rfl rfl (Nat.le_of_ble_eq_true rfl) rfl (g_recv (b := 0) rfl t_199 rfl) (C139 (by omega) hs6) ?_
      refine g_go 1 md_164 (i1 := 38) rfl ?_
      cases H
      exact K0 (s6) rfl
    · rw [if_neg h2] at H
      refine n_cmpT (n_q md_164 rfl) (decide_eq_true (Int32.not_lt.mp h2)) ?_
      cases H
      rw [← Kr _ rfl]
      exact n_end (n_q md_164 rfl) (fun _ => rfl)
  · rw [if_neg h1] at H
    refine n_ifT (n_q md_164 rfl) (decide_eq_true h1) ?_
    cases H
    rw [← Kr _ rfl]
    exact n_end (n_q md_164 rfl) (fun _ => rfl)
noncomputable def f164_38L (s : g_S) : Option (g_S) := g_run (fun S : g_S => f164_38 S) s
theorem f164_38L_eq (s : g_S) : f164_38L s = g_st (f164_38 s) (fun S => f164_38L S) := by
  unfold f164_38L
  exact g_run_eq _ _
theorem P164_38L {d ex : Nat} {s : g_S}   {z : (g_S)} (H : f164_38L s = some z) (hd : 77 ≤ d)  : n_R X (d + 1) 164 38 [some (.ref 199)] [] (g_M s ex) (g_rSV z ex) := by
  unfold f164_38L at H
  refine g_rs (Q := fun S => n_R X (d + 1) 164 38 [some (.ref 199)] [] (g_M S ex) (g_rSV z ex)) H ?_
  intro S w hb K0 KK
  refine P164_38 hb hd ?_ ?_
  · exact fun S1 e1 => K0 S1 e1
  · exact fun q e1 => by rw [KK q e1]
noncomputable def f164 (s : g_S) : Option (g_S) := (g_let (g_w s 199 4 0) fun s1 => g_let (g_w s1 199 5 0) fun s2 => g_let (g_w s2 199 6 0) fun s3 => g_let (g_w s3 199 7 ((-1))) fun s4 => g_let (g_w s4 199 18 0) fun s5 => g_let (g_w s5 199 21 0) fun s6 => g_let (g_w s6 199 22 0) fun s7 => g_let (g_w s7 199 23 0) fun s8 => g_let (g_w s8 199 19 0) fun s9 => g_let (g_w s9 199 24 0) fun s10 => g_let (g_w s10 199 25 0) fun s11 => g_let (g_w s11 199 20 0) fun s12 => (f139 s12).bind fun s14 => f164_38L s14)
theorem C164 {d ex : Nat} {s : g_S}  {z : g_S} (hd : 77 < d) (H : f164 s = some z) : n_C X d 164 [.ref 199] (g_M s ex) (g_rSV z ex) := by
  obtain ⟨d, rfl⟩ : ∃ d1, d = d1 + 1 := ⟨d - 1, by omega⟩
  replace hd := Nat.le_of_lt_succ hd
  refine ⟨Nat.le_of_ble_eq_true rfl, ?_⟩
  rw [md_164]
  show n_R X (d + 1) 164 0 [some (.ref 199)] [] (g_M s ex) _
  unfold f164 at H
  refine g_go 2 md_164 (i1 := 2) rfl ?_
  obtain ⟨s1, es1, H⟩ := g_letp H
  refine g_putf (n_q md_164 rfl) t_199 rfl rfl es1 ?_
  refine g_go 2 md_164 (i1 := 5) rfl ?_
  obtain ⟨s2, es2, H⟩ := g_letp H
  refine g_putf (n_q md_164 rfl) t_199 rfl rfl es2 ?_
  refine g_go 2 md_164 (i1 := 8) rfl ?_
  obtain ⟨s3, es3, H⟩ := g_letp H
  refine g_putf (n_q md_164 rfl) t_199 rfl rfl es3 ?_
  refine g_go 2 md_164 (i1 := 11) rfl ?_
  obtain ⟨s4, es4, H⟩ := g_letp H
  refine g_putf (n_q md_164 rfl) t_199 rfl rfl es4 ?_
  refine g_go 2 md_164 (i1 := 14) rfl ?_
  obtain ⟨s5, es5, H⟩ := g_letp H
  refine g_putf (n_q md_164 rfl) t_199 rfl rfl es5 ?_
  refine g_go 2 md_164 (i1 := 17) rfl ?_
  obtain ⟨s6, es6, H⟩ := g_letp H
  refine g_putf (n_q md_164 rfl) t_199 rfl rfl es6 ?_
  refine g_go 2 md_164 (i1 := 20) rfl ?_
  obtain ⟨s7, es7, H⟩ := g_letp H
  refine g_putf (n_q md_164 rfl) t_199 rfl rfl es7 ?_
  refine g_go 2 md_164 (i1 := 23) rfl ?_
  obtain ⟨s8, es8, H⟩ := g_letp H
  refine g_putf (n_q md_164 rfl) t_199 rfl rfl es8 ?_
  refine g_go 2 md_164 (i1 := 26) rfl ?_
  obtain ⟨s9, es9, H⟩ := g_letp H
  refine g_putf (n_q md_164 rfl) t_199 rfl rfl es9 ?_
  refine g_go 2 md_164 (i1 := 29) rfl ?_
  obtain ⟨s10, es10, H⟩ := g_letp H
  refine g_putf (n_q md_164 rfl) t_199 rfl rfl es10 ?_
  refine g_go 2 md_164 (i1 := 32) rfl ?_
  obtain ⟨s11, es11, H⟩ := g_letp H
  refine g_putf (n_q md_164 rfl) t_199 rfl rfl es11 ?_
  refine g_go 2 md_164 (i1 := 35) rfl ?_
  obtain ⟨s12, es12, H⟩ := g_letp H
  refine g_putf (n_q md_164 rfl) t_199 rfl rfl es12 ?_
  refine g_go 1 md_164 (i1 := 37) rfl ?_
  obtain ⟨s14, hs14, H⟩ := g_bind H
  refine n_call (n_q md_164 rfl) (As := [.ref 199]) (rest := []) rfl rfl (Nat.le_of_ble_eq_true rfl) rfl (g_recv (b := 0) rfl t_199 rfl) (C139 (by omega) hs14) ?_
  exact P164_38L H hd

theorem md_165 : m_md 165 = m_X8_law := rfl
noncomputable def f165_68 (s : g_S) (p1 : Int32) : Option (Int32 × g_S) := (if m_in (s 199 12) 4 = true then g_let (g_w s 206 (s 199 12).toNatClampNeg p1) fun s2 => g_let (g_w s2 199 12 ((s2 199 12) + 1)) fun s3 => some (((s3 199 12) - 1, s3)) else none)
theorem P165_68 {d ex : Nat} {s : g_S} {p1 : Int32} {u2 : Option Value}   {z : (Int32 × g_S)} (H : f165_68 s p1 = some z) (hd : 78 ≤ d)  : n_R X (d + 1) 165 68 [some (.ref 199), some (.int p1), u2] [] (g_M s ex) (g_rSI z ex) := by
  unfold f165_68 at H
  refine g_go 1 md_165 (i1 := 69) rfl ?_
  refine g_getr 206 (n_q md_165 rfl) t_199 rfl ?_
  refine g_go 1 md_165 (i1 := 71) rfl ?_
  refine g_getf (n_q md_165 rfl) t_199 rfl ?_
  refine g_go 1 md_165 (i1 := 73) rfl ?_
  obtain ⟨h1, H⟩ := g_gd H
  obtain ⟨s2, es2, H⟩ := g_letp H
  refine g_iast (n_q md_165 rfl) t_206 h1 es2 ?_
  refine g_go 2 md_165 (i1 := 76) rfl ?_
  refine g_getf (n_q md_165 rfl) t_199 rfl ?_
  refine g_go 2 md_165 (i1 := 79) rfl ?_
  obtain ⟨s3, es3, H⟩ := g_letp H
  refine g_putf (n_q md_165 rfl) t_199 rfl rfl es3 ?_
  refine g_go 1 md_165 (i1 := 81) rfl ?_
  refine g_getf (n_q md_165 rfl) t_199 rfl ?_
  refine g_go 2 md_165 (i1 := 84) rfl ?_
  cases H
  exact n_iret (n_q md_165 rfl) (Or.inl rfl)
noncomputable def f165_52 (s : g_S) (p1 : Int32) (x2 : Int32) : Option ((Int32 × g_S) ⊕ (Int32 × g_S)) := (if x2 < p1 then (if m_in (s 199 12) 4 = true then if m_in x2 500 = true then g_let (g_w s (202 + (s 199 12).toNatClampNeg) x2.toNatClampNeg (s 200 x2.toNatClampNeg)) fun s4 => some (.inl (x2 + 1, s4)) else none else none) else (Option.map (fun w => (.inr (w) : ((Int32 × g_S) ⊕ (Int32 × g_S)))) (f165_68 s p1)))
theorem P165_52 {d ex : Nat} {rr : m_R} {s : g_S} {p1 : Int32} {x2 : Int32}   {z : ((Int32 × g_S) ⊕ (Int32 × g_S))} (H : f165_52 s p1 x2 = some z) (hd : 78 ≤ d) (K0 : ∀ S : Int32 × g_S, z = .inl S → n_R X (d + 1) 165 52 [some (.ref 199), some (.int p1), some (.int S.1)] [] (g_M S.2 ex) rr) (Kr : ∀ q, z = .inr (q) → g_rSI q ex = rr) : n_R X (d + 1) 165 52 [some (.ref 199), some (.int p1), some (.int x2)] [] (g_M s ex) rr := by
  unfold f165_52 at H
  refine g_go 2 md_165 (i1 := 54) rfl ?_
  by_cases h1 : x2 < p1
  · rw [if_pos h1] at H
    refine n_cmpF (n_q md_165 rfl) (fun e1 => absurd (of_decide_eq_true e1) (Int32.not_le.mpr h1)) ?_
    refine g_go 1 md_165 (i1 := 56) rfl ?_
    refine g_getr 201 (n_q md_165 rfl) t_199 rfl ?_
    refine g_go 1 md_165 (i1 := 58) rfl ?_
    refine g_getf (n_q md_165 rfl) t_199 rfl ?_
    obtain ⟨h2, H⟩ := g_gd H
    refine g_aald (n_q md_165 rfl) ta_201 (by decide) h2 (g_range (g_inlt h2)) ?_
    refine g_go 2 md_165 (i1 := 62) rfl ?_
    refine g_getr 200 (n_q md_165 rfl) t_199 rfl ?_
    refine g_go 1 md_165 (i1 := 64) rfl ?_
    obtain ⟨h3, H⟩ := g_gd H
    refine g_iald (n_q md_165 rfl) t_200 h3 ?_
    obtain ⟨s4, es4, H⟩ := g_letp H
    refine g_iast (n_q md_165 rfl) (te_201 (g_inlt h2)) h3 es4 ?_
    refine g_go 2 md_165 (i1 := 52) (ls1 := [some (.ref 199), some (.int p1), some (.int (x2 + 1))]) rfl ?_
    cases H
    exact K0 (x2 + 1, s4) rfl
  · rw [if_neg h1] at H
    refine n_cmpT (n_q md_165 rfl) (decide_eq_true (Int32.not_lt.mp h1)) ?_
    obtain ⟨w, hw, H⟩ := g_mapp H
    subst H
    rw [← Kr _ rfl]
    exact P165_68 hw hd
noncomputable def f165_52L (s : g_S) (p1 : Int32) (x2 : Int32) : Option (Int32 × g_S) := g_run (fun S : Int32 × g_S => f165_52 S.2 p1 S.1) (x2, s)
theorem f165_52L_eq (s : g_S) (p1 : Int32) (x2 : Int32) : f165_52L s p1 x2 = g_st (f165_52 s p1 x2) (fun S => f165_52L S.2 p1 S.1) := by
  unfold f165_52L
  exact g_run_eq _ _
theorem P165_52L {d ex : Nat} {s : g_S} {p1 : Int32} {x2 : Int32}   {z : (Int32 × g_S)} (H : f165_52L s p1 x2 = some z) (hd : 78 ≤ d)  : n_R X (d + 1) 165 52 [some (.ref 199), some (.int p1), some (.int x2)] [] (g_M s ex) (g_rSI z ex) := by
  unfold f165_52L at H
  refine g_rs (Q := fun S => n_R X (d + 1) 165 52 [some (.ref 199), some (.int p1), some (.int S.1)] [] (g_M S.2 ex) (g_rSI z ex)) H ?_
  intro S w hb K0 KK
  refine P165_52 hb hd ?_ ?_
  · exact fun S1 e1 => K0 S1 e1
  · exact fun q e1 => by rw [KK q e1]
noncomputable def f165_13 (s : g_S) (p1 : Int32) (y1 : Int32) : Option (Int32 × g_S) := (g_bd (f134 s y1 1) fun v1 s2 => if v1 = 0 then (g_let (g_w s2 199 1 0) fun s4 => g_let (g_w s4 199 3 ((-1))) fun s5 => if (s5 199 12) = 4 then (some (((-1), s5))) else (g_let (g_w s5 199 8 ((-1))) fun s7 => g_let (g_w s7 199 2 p1) fun s8 => (f164 s8).bind fun s10 => g_let (g_w s10 199 3 (s10 199 7)) fun s11 => if (s11 199 6) = 0 then (f165_52L s11 p1 0) else (some (((s11 199 6) - 10, s11))))) else (some ((0, s2))))
theorem P165_13 {d ex : Nat} {s : g_S} {p1 : Int32} {y1 : Int32} {u2 : Option Value}   {z : (Int32 × g_S)} (H : f165_13 s p1 y1 = some z) (hd : 78 ≤ d)  : n_R X (d + 1) 165 13 [some (.ref 199), some (.int p1), u2] [.int y1, .ref 199] (g_M s ex) (g_rSI z ex) := by
  unfold f165_13 at H
  refine g_go 1 md_165 (i1 := 14) rfl ?_
  obtain ⟨v1, s2, hv1, H⟩ := g_bdp H
  refine n_callv (n_q md_165 rfl) (As := [.ref 199, .int y1, .int 1]) (rest := []) rfl rfl (Nat.le_of_ble_eq_true rfl) rfl (g_recv (b := 0) rfl t_199 rfl) (C134 (by omega) hv1) ?_
  by_cases h3 : v1 = 0
  · rw [if_pos h3] at H
    refine n_ifT (n_q md_165 rfl) (decide_eq_true h3) ?_
    refine g_go 2 md_165 (i1 := 20) rfl ?_
    obtain ⟨s4, es4, H⟩ := g_letp H
    refine g_putf (n_q md_165 rfl) t_199 rfl rfl es4 ?_
    refine g_go 2 md_165 (i1 := 23) rfl ?_
    obtain ⟨s5, es5, H⟩ := g_letp H
    refine g_putf (n_q md_165 rfl) t_199 rfl rfl es5 ?_
    refine g_go 1 md_165 (i1 := 25) rfl ?_
    refine g_getf (n_q md_165 rfl) t_199 rfl ?_
    refine g_go 1 md_165 (i1 := 27) rfl ?_
    by_cases h6 : (s5 199 12) = 4
    · rw [if_pos h6] at H
      refine n_cmpF (n_q md_165 rfl) (fun e1 => of_decide_eq_true e1 h6) ?_
      refine g_go 1 md_165 (i1 := 29) rfl ?_
      cases H
      exact n_iret (n_q md_165 rfl) (Or.inl rfl)
    · rw [if_neg h6] at H
      refine n_cmpT (n_q md_165 rfl) (decide_eq_true h6) ?_
      refine g_go 2 md_165 (i1 := 32) rfl ?_
      obtain ⟨s7, es7, H⟩ := g_letp H
      refine g_putf (n_q md_165 rfl) t_199 rfl rfl es7 ?_
      refine g_go 2 md_165 (i1 := 35) rfl ?_
      obtain ⟨s8, es8, H⟩ := g_letp H
      refine g_putf (n_q md_165 rfl) t_199 rfl rfl es8 ?_
      refine g_go 1 md_165 (i1 := 37) rfl ?_
      obtain ⟨s10, hs10, H⟩ := g_bind H
      refine n_call (n_q md_165 rfl) (As := [.ref 199]) (rest := []) rfl rfl (Nat.le_of_ble_eq_true rfl) rfl (g_recv (b := 0) rfl t_199 rfl) (C164 (by omega) hs10) ?_
      refine g_go 2 md_165 (i1 := 40) rfl ?_
      refine g_getf (n_q md_165 rfl) t_199 rfl ?_
      obtain ⟨s11, es11, H⟩ := g_letp H
      refine g_putf (n_q md_165 rfl) t_199 rfl rfl es11 ?_
      refine g_go 1 md_165 (i1 := 43) rfl ?_
      refine g_getf (n_q md_165 rfl) t_199 rfl ?_
      by_cases h12 : (s11 199 6) = 0
      · rw [if_pos h12] at H
        refine n_ifT (n_q md_165 rfl) (decide_eq_true h12) ?_
        refine g_go 2 md_165 (i1 := 52) (ls1 := [some (.ref 199), some (.int p1), some (.int 0)]) rfl ?_
        exact P165_52L H hd
      · rw [if_neg h12] at H
        refine n_ifF (n_q md_165 rfl) (fun e1 => h12 (of_decide_eq_true e1)) ?_
        refine g_go 1 md_165 (i1 := 46) rfl ?_
        refine g_getf (n_q md_165 rfl) t_199 rfl ?_
        refine g_go 2 md_165 (i1 := 49) rfl ?_
        cases H
        exact n_iret (n_q md_165 rfl) (Or.inl rfl)
  · rw [if_neg h3] at H
    refine n_ifF (n_q md_165 rfl) (fun e1 => h3 (of_decide_eq_true e1)) ?_
    refine g_go 1 md_165 (i1 := 17) rfl ?_
    cases H
    exact n_iret (n_q md_165 rfl) (Or.inl rfl)
noncomputable def f165 (s : g_S) (p1 : Int32) : Option (Int32 × g_S) := (g_let (g_w s 199 0 0) fun s1 => (f135 s1 p1 0 (s1 199 1)).bind fun v2 => if v2 = 0 then (f165_13 s1 p1 1) else (f165_13 s1 p1 0))
theorem C165 {d ex : Nat} {s : g_S} {p1 : Int32}  {z : Int32 × g_S} (hd : 78 < d) (H : f165 s p1 = some z) : n_C X d 165 [.ref 199, .int p1] (g_M s ex) (g_rSI z ex) := by
  obtain ⟨d, rfl⟩ : ∃ d1, d = d1 + 1 := ⟨d - 1, by omega⟩
  replace hd := Nat.le_of_lt_succ hd
  refine ⟨Nat.le_of_ble_eq_true rfl, ?_⟩
  rw [md_165]
  show n_R X (d + 1) 165 0 [some (.ref 199), some (.int p1), none] [] (g_M s ex) _
  unfold f165 at H
  refine g_go 2 md_165 (i1 := 2) rfl ?_
  obtain ⟨s1, es1, H⟩ := g_letp H
  refine g_putf (n_q md_165 rfl) t_199 rfl rfl es1 ?_
  refine g_go 4 md_165 (i1 := 7) rfl ?_
  refine g_getf (n_q md_165 rfl) t_199 rfl ?_
  obtain ⟨v2, hv2, H⟩ := g_bind H
  refine n_callv (n_q md_165 rfl) (As := [.int p1, .int 0, .int (s1 199 1)]) (rest := [.ref 199]) rfl rfl (Nat.le_of_ble_eq_true rfl) rfl rfl (C135 (by omega) hv2) ?_
  by_cases h3 : v2 = 0
  · rw [if_pos h3] at H
    refine n_ifF (n_q md_165 rfl) (fun e1 => of_decide_eq_true e1 h3) ?_
    refine g_go 2 md_165 (i1 := 13) rfl ?_
    exact P165_13 H hd
  · rw [if_neg h3] at H
    refine n_ifT (n_q md_165 rfl) (decide_eq_true h3) ?_
    refine g_go 1 md_165 (i1 := 13) rfl ?_
    exact P165_13 H hd

theorem md_166 : m_md 166 = m_X8_fault := rfl
noncomputable def f166 (s : g_S) : Option (Int32 × g_S) := (g_let (g_w s 199 0 0) fun s1 => some ((s1 199 3, s1)))
theorem C166 {d ex : Nat} {s : g_S}  {z : Int32 × g_S} (hd : 12 < d) (H : f166 s = some z) : n_C X d 166 [.ref 199] (g_M s ex) (g_rSI z ex) := by
  obtain ⟨d, rfl⟩ : ∃ d1, d = d1 + 1 := ⟨d - 1, by omega⟩
  replace hd := Nat.le_of_lt_succ hd
  refine ⟨Nat.le_of_ble_eq_true rfl, ?_⟩
  rw [md_166]
  show n_R X (d + 1) 166 0 [some (.ref 199)] [] (g_M s ex) _
  unfold f166 at H
  refine g_go 2 md_166 (i1 := 2) rfl ?_
  obtain ⟨s1, es1, H⟩ := g_letp H
  refine g_putf (n_q md_166 rfl) t_199 rfl rfl es1 ?_
  refine g_go 1 md_166 (i1 := 4) rfl ?_
  refine g_getf (n_q md_166 rfl) t_199 rfl ?_
  cases H
  exact n_iret (n_q md_166 rfl) (Or.inl rfl)

theorem md_167 : m_md 167 = m_X8_force := rfl
noncomputable def f167_15 (s : g_S) (p1 : Int32) (y1 : Int32) : Option (Int32 × g_S) := (g_bd (f134 s y1 1) fun v1 s2 => if v1 = 0 then (g_let (g_w s2 199 13 p1) fun s4 => some ((s2 199 13, s4))) else (some ((0, s2))))
theorem P167_15 {d ex : Nat} {s : g_S} {p1 : Int32} {y1 : Int32} {u2 : Option Value}   {z : (Int32 × g_S)} (H : f167_15 s p1 y1 = some z) (hd : 13 ≤ d)  : n_R X (d + 1) 167 15 [some (.ref 199), some (.int p1), u2] [.int y1, .ref 199] (g_M s ex) (g_rSI z ex) := by
  unfold f167_15 at H
  refine g_go 1 md_167 (i1 := 16) rfl ?_
  obtain ⟨v1, s2, hv1, H⟩ := g_bdp H
  refine n_callv (n_q md_167 rfl) (As := [.ref 199, .int y1, .int 1]) (rest := []) rfl rfl (Nat.le_of_ble_eq_true rfl) rfl (g_recv (b := 0) rfl t_199 rfl) (C134 (by omega) hv1) ?_
  by_cases h3 : v1 = 0
  · rw [if_pos h3] at H
    refine n_ifT (n_q md_167 rfl) (decide_eq_true h3) ?_
    refine g_go 1 md_167 (i1 := 21) rfl ?_
    refine g_getf (n_q md_167 rfl) t_199 rfl ?_
    refine g_go 3 md_167 (i1 := 25) (ls1 := [some (.ref 199), some (.int p1), some (.int (s2 199 13))]) rfl ?_
    obtain ⟨s4, es4, H⟩ := g_letp H
    refine g_putf (n_q md_167 rfl) t_199 rfl rfl es4 ?_
    refine g_go 1 md_167 (i1 := 27) rfl ?_
    cases H
    exact n_iret (n_q md_167 rfl) (Or.inl rfl)
  · rw [if_neg h3] at H
    refine n_ifF (n_q md_167 rfl) (fun e1 => h3 (of_decide_eq_true e1)) ?_
    refine g_go 1 md_167 (i1 := 19) rfl ?_
    cases H
    exact n_iret (n_q md_167 rfl) (Or.inl rfl)
noncomputable def f167 (s : g_S) (p1 : Int32) : Option (Int32 × g_S) := (g_let (g_w s 199 0 0) fun s1 => (f135 s1 p1 ((-1)) ((s1 199 12) - 1)).bind fun v2 => if v2 = 0 then (f167_15 s1 p1 1) else (f167_15 s1 p1 0))
theorem C167 {d ex : Nat} {s : g_S} {p1 : Int32}  {z : Int32 × g_S} (hd : 13 < d) (H : f167 s p1 = some z) : n_C X d 167 [.ref 199, .int p1] (g_M s ex) (g_rSI z ex) := by
  obtain ⟨d, rfl⟩ : ∃ d1, d = d1 + 1 := ⟨d - 1, by omega⟩
  replace hd := Nat.le_of_lt_succ hd
  refine ⟨Nat.le_of_ble_eq_true rfl, ?_⟩
  rw [md_167]
  show n_R X (d + 1) 167 0 [some (.ref 199), some (.int p1), none] [] (g_M s ex) _
  unfold f167 at H
  refine g_go 2 md_167 (i1 := 2) rfl ?_
  obtain ⟨s1, es1, H⟩ := g_letp H
  refine g_putf (n_q md_167 rfl) t_199 rfl rfl es1 ?_
  refine g_go 4 md_167 (i1 := 7) rfl ?_
  refine g_getf (n_q md_167 rfl) t_199 rfl ?_
  refine g_go 2 md_167 (i1 := 10) rfl ?_
  obtain ⟨v2, hv2, H⟩ := g_bind H
  refine n_callv (n_q md_167 rfl) (As := [.int p1, .int ((-1)), .int ((s1 199 12) - 1)]) (rest := [.ref 199]) rfl rfl (Nat.le_of_ble_eq_true rfl) rfl rfl (C135 (by omega) hv2) ?_
  by_cases h3 : v2 = 0
  · rw [if_pos h3] at H
    refine n_ifF (n_q md_167 rfl) (fun e1 => of_decide_eq_true e1 h3) ?_
    refine g_go 2 md_167 (i1 := 15) rfl ?_
    exact P167_15 H hd
  · rw [if_neg h3] at H
    refine n_ifT (n_q md_167 rfl) (decide_eq_true h3) ?_
    refine g_go 1 md_167 (i1 := 15) rfl ?_
    exact P167_15 H hd

theorem md_168 : m_md 168 = m_X8_asks := rfl
noncomputable def f168_63 (s : g_S) (p1 : Int32) (p2 : Int32) (p3 : Int32) (p4 : Int32) (y1 : Int32) : Option (g_S) := (g_let (g_w s 199 19 y1) fun s1 => some s1)
theorem P168_63 {d ex : Nat} {s : g_S} {p1 : Int32} {p2 : Int32} {p3 : Int32} {p4 : Int32} {y1 : Int32}   {z : (g_S)} (H : f168_63 s p1 p2 p3 p4 y1 = some z) (hd : 78 ≤ d)  : n_R X (d + 1) 168 63 [some (.ref 199), some (.int p1), some (.int p2), some (.int p3), some (.int p4)] [.int y1, .ref 199] (g_M s ex) (g_rSV z ex) := by
  unfold f168_63 at H
  obtain ⟨s1, es1, H⟩ := g_letp H
  refine g_putf (n_q md_168 rfl) t_199 rfl rfl es1 ?_
  cases H
  exact n_end (n_q md_168 rfl) (fun _ => rfl)
noncomputable def f168 (s : g_S) (p1 : Int32) (p2 : Int32) (p3 : Int32) (p4 : Int32) : Option (g_S) := (g_let (g_w s 199 15 p2) fun s1 => g_let (g_w s1 199 16 p3) fun s2 => g_let (g_w s2 199 17 p4) fun s3 => g_let (g_w s3 199 21 0) fun s4 => g_let (g_w s4 199 22 0) fun s5 => g_let (g_w s5 199 24 0) fun s6 => g_let (g_w s6 199 25 0) fun s7 => g_let (g_w s7 199 20 0) fun s8 => if p1 = ((-1)) then (g_let (g_w s8 199 19 (s8 207 6)) fun s10 => some s10) else (g_let (g_w s8 199 8 p1) fun s10 => if m_in p1 4 = true then g_let (g_w s10 199 2 (s10 206 p1.toNatClampNeg)) fun s12 => (f164 s12).bind fun s14 => if (s14 199 23) = 0 then (f168_63 s14 p1 p2 p3 p4 (s14 207 6)) else (if (s14 199 19) < 0 then (f168_63 s14 p1 p2 p3 p4 0) else ((f136 s14 (s14 199 19) 9999).bind fun v17 => f168_63 s14 p1 p2 p3 p4 v17)) else none))
theorem C168 {d ex : Nat} {s : g_S} {p1 : Int32} {p2 : Int32} {p3 : Int32} {p4 : Int32}  {z : g_S} (hd : 78 < d) (H : f168 s p1 p2 p3 p4 = some z) : n_C X d 168 [.ref 199, .int p1, .int p2, .int p3, .int p4] (g_M s ex) (g_rSV z ex) := by
  obtain ⟨d, rfl⟩ : ∃ d1, d = d1 + 1 := ⟨d - 1, by omega⟩
  replace hd := Nat.le_of_lt_succ hd
  refine ⟨Nat.le_of_ble_eq_true rfl, ?_⟩
  rw [md_168]
  show n_R X (d + 1) 168 0 [some (.ref 199), some (.int p1), some (.int p2), some (.int p3), some (.int p4)] [] (g_M s ex) _
  unfold f168 at H
  refine g_go 2 md_168 (i1 := 2) rfl ?_
  obtain ⟨s1, es1, H⟩ := g_letp H
  refine g_putf (n_q md_168 rfl) t_199 rfl rfl es1 ?_
  refine g_go 2 md_168 (i1 := 5) rfl ?_
  obtain ⟨s2, es2, H⟩ := g_letp H
  refine g_putf (n_q md_168 rfl) t_199 rfl rfl es2 ?_
  refine g_go 2 md_168 (i1 := 8) rfl ?_
  obtain ⟨s3, es3, H⟩ := g_letp H
  refine g_putf (n_q md_168 rfl) t_199 rfl rfl es3 ?_
  refine g_go 2 md_168 (i1 := 11) rfl ?_
  obtain ⟨s4, es4, H⟩ := g_letp H
  refine g_putf (n_q md_168 rfl) t_199 rfl rfl es4 ?_
  refine g_go 2 md_168 (i1 := 14) rfl ?_
  obtain ⟨s5, es5, H⟩ := g_letp H
  refine g_putf (n_q md_168 rfl) t_199 rfl rfl es5 ?_
  refine g_go 2 md_168 (i1 := 17) rfl ?_
  obtain ⟨s6, es6, H⟩ := g_letp H
  refine g_putf (n_q md_168 rfl) t_199 rfl rfl es6 ?_
  refine g_go 2 md_168 (i1 := 20) rfl ?_
  obtain ⟨s7, es7, H⟩ := g_letp H
  refine g_putf (n_q md_168 rfl) t_199 rfl rfl es7 ?_
  refine g_go 2 md_168 (i1 := 23) rfl ?_
  obtain ⟨s8, es8, H⟩ := g_letp H
  refine g_putf (n_q md_168 rfl) t_199 rfl rfl es8 ?_
  refine g_go 2 md_168 (i1 := 26) rfl ?_
  by_cases h9 : p1 = ((-1))
  · rw [if_pos h9] at H
    refine n_cmpF (n_q md_168 rfl) (fun e1 => of_decide_eq_true e1 h9) ?_
    refine g_go 2 md_168 (i1 := 29) rfl ?_
    refine g_getr 207 (n_q md_168 rfl) t_199 rfl ?_
    refine g_go 1 md_168 (i1 := 31) rfl ?_
    refine g_iald (n_q md_168 rfl) t_207 (rfl : m_in 6 8 = true) ?_
    obtain ⟨s10, es10, H⟩ := g_letp H
    refine g_putf (n_q md_168 rfl) t_199 rfl rfl es10 ?_
    cases H
    exact n_end (n_q md_168 rfl) (fun _ => rfl)
  · rw [if_neg h9] at H
    refine n_cmpT (n_q md_168 rfl) (decide_eq_true h9) ?_
    refine g_go 2 md_168 (i1 := 36) rfl ?_
    obtain ⟨s10, es10, H⟩ := g_letp H
    refine g_putf (n_q md_168 rfl) t_199 rfl rfl es10 ?_
    refine g_go 2 md_168 (i1 := 39) rfl ?_
    refine g_getr 206 (n_q md_168 rfl) t_199 rfl ?_
    refine g_go 1 md_168 (i1 := 41) rfl ?_
    obtain ⟨h11, H⟩ := g_gd H
    refine g_iald (n_q md_168 rfl) t_206 h11 ?_
    obtain ⟨s12, es12, H⟩ := g_letp H
    refine g_putf (n_q md_168 rfl) t_199 rfl rfl es12 ?_
    refine g_go 1 md_168 (i1 := 44) rfl ?_
    obtain ⟨s14, hs14, H⟩ := g_bind H
    refine n_call (n_q md_168 rfl) (As := [.ref 199]) (rest := []) rfl rfl (Nat.le_of_ble_eq_true rfl) rfl (g_recv (b := 0) rfl t_199 rfl) (C164 (by omega) hs14) ?_
    refine g_go 2 md_168 (i1 := 47) rfl ?_
    refine g_getf (n_q md_168 rfl) t_199 rfl ?_
    by_cases h15 : (s14 199 23) = 0
    · rw [if_pos h15] at H
      refine n_ifF (n_q md_168 rfl) (fun e1 => of_decide_eq_true e1 h15) ?_
      refine g_go 1 md_168 (i1 := 50) rfl ?_
      refine g_getr 207 (n_q md_168 rfl) t_199 rfl ?_
      refine g_go 1 md_168 (i1 := 52) rfl ?_
      refine g_iald (n_q md_168 rfl) t_207 (rfl : m_in 6 8 = true) ?_
      refine g_go 1 md_168 (i1 := 63) rfl ?_
      exact P168_63 H hd
    · rw [if_neg h15] at H
      refine n_ifT (n_q md_168 rfl) (decide_eq_true h15) ?_
      refine g_go 1 md_168 (i1 := 55) rfl ?_
      refine g_getf (n_q md_168 rfl) t_199 rfl ?_
      by_cases h16 : (s14 199 19) < 0
      · rw [if_pos h16] at H
        refine n_ifF (n_q md_168 rfl) (fun e1 => absurd (of_decide_eq_true e1) (Int32.not_le.mpr h16)) ?_
        refine g_go 2 md_168 (i1 := 63) rfl ?_
        exact P168_63 H hd
      · rw [if_neg h16] at H
        refine n_ifT (n_q md_168 rfl) (decide_eq_true (Int32.not_lt.mp h16)) ?_
        refine g_go 1 md_168 (i1 := 60) rfl ?_
        refine g_getf (n_q md_168 rfl) t_199 rfl ?_
        refine g_go 1 md_168 (i1 := 62) rfl ?_
        obtain ⟨v17, hv17, H⟩ := g_bind H
        refine n_callv (n_q md_168 rfl) (As := [.int (s14 199 19), .int 9999]) (rest := [.ref 199]) rfl rfl (Nat.le_of_ble_eq_true rfl) rfl rfl (C136 (by omega) hv17) ?_
        exact P168_63 H hd

theorem md_169 : m_md 169 = m_X8_tellsBits := rfl
noncomputable def f169_2 (s : g_S) (p1 : Int32) (x2 : Int32) : Option ((Int32 × g_S) ⊕ (g_S)) := (if x2 < 5 then (if m_in x2 8 = true then g_let (g_w s 207 x2.toNatClampNeg ((p1 >>> (x2 &&& 31)) &&& 1)) fun s3 => some (.inl (x2 + 1, s3)) else none) else (some (.inr (s))))
theorem P169_2 {d ex : Nat} {rr : m_R} {s : g_S} {p1 : Int32} {x2 : Int32}   {z : ((Int32 × g_S) ⊕ (g_S))} (H : f169_2 s p1 x2 = some z) (hd : 12 ≤ d) (K0 : ∀ S : Int32 × g_S, z = .inl S → n_R X (d + 1) 169 2 [some (.ref 199), some (.int p1), some (.int S.1)] [] (g_M S.2 ex) rr) (Kr : ∀ q, z = .inr (q) → g_rSV q ex = rr) : n_R X (d + 1) 169 2 [some (.ref 199), some (.int p1), some (.int x2)] [] (g_M s ex) rr := by
  unfold f169_2 at H
  refine g_go 2 md_169 (i1 := 4) rfl ?_
  by_cases h1 : x2 < 5
  · rw [if_pos h1] at H
    refine n_cmpF (n_q md_169 rfl) (fun e1 => absurd (of_decide_eq_true e1) (Int32.not_le.mpr h1)) ?_
    refine g_go 1 md_169 (i1 := 6) rfl ?_
    refine g_getr 207 (n_q md_169 rfl) t_199 rfl ?_
    refine g_go 6 md_169 (i1 := 13) rfl ?_
    obtain ⟨h2, H⟩ := g_gd H
    obtain ⟨s3, es3, H⟩ := g_letp H
    refine g_iast (n_q md_169 rfl) t_207 h2 es3 ?_
    refine g_go 2 md_169 (i1 := 2) (ls1 := [some (.ref 199), some (.int p1), some (.int (x2 + 1))]) rfl ?_
    cases H
    exact K0 (x2 + 1, s3) rfl
  · rw [if_neg h1] at H
    refine n_cmpT (n_q md_169 rfl) (decide_eq_true (Int32.not_lt.mp h1)) ?_
    cases H
    rw [← Kr _ rfl]
    exact n_end (n_q md_169 rfl) (fun _ => rfl)
noncomputable def f169_2L (s : g_S) (p1 : Int32) (x2 : Int32) : Option (g_S) := g_run (fun S : Int32 × g_S => f169_2 S.2 p1 S.1) (x2, s)
theorem f169_2L_eq (s : g_S) (p1 : Int32) (x2 : Int32) : f169_2L s p1 x2 = g_st (f169_2 s p1 x2) (fun S => f169_2L S.2 p1 S.1) := by
  unfold f169_2L
  exact g_run_eq _ _
theorem P169_2L {d ex : Nat} {s : g_S} {p1 : Int32} {x2 : Int32}   {z : (g_S)} (H : f169_2L s p1 x2 = some z) (hd : 12 ≤ d)  : n_R X (d + 1) 169 2 [some (.ref 199), some (.int p1), some (.int x2)] [] (g_M s ex) (g_rSV z ex) := by
  unfold f169_2L at H
  refine g_rs (Q := fun S => n_R X (d + 1) 169 2 [some (.ref 199), some (.int p1), some (.int S.1)] [] (g_M S.2 ex) (g_rSV z ex)) H ?_
  intro S w hb K0 KK
  refine P169_2 hb hd ?_ ?_
  · exact fun S1 e1 => K0 S1 e1
  · exact fun q e1 => by rw [KK q e1]
noncomputable def f169 (s : g_S) (p1 : Int32) : Option (g_S) := (f169_2L s p1 0)
theorem C169 {d ex : Nat} {s : g_S} {p1 : Int32}  {z : g_S} (hd : 12 < d) (H : f169 s p1 = some z) : n_C X d 169 [.ref 199, .int p1] (g_M s ex) (g_rSV z ex) := by
  obtain ⟨d, rfl⟩ : ∃ d1, d = d1 + 1 := ⟨d - 1, by omega⟩
  replace hd := Nat.le_of_lt_succ hd
  refine ⟨Nat.le_of_ble_eq_true rfl, ?_⟩
  rw [md_169]
  show n_R X (d + 1) 169 0 [some (.ref 199), some (.int p1), none] [] (g_M s ex) _
  unfold f169 at H
  refine g_go 2 md_169 (i1 := 2) (ls1 := [some (.ref 199), some (.int p1), some (.int 0)]) rfl ?_
  exact P169_2L H hd

theorem md_170 : m_md 170 = m_X8_words := rfl
noncomputable def f170_40 (s : g_S) (p1 : Int32) (p2 : Int32) (p3 : Int32) (p4 : Int32) (p5 : Int32) (p6 : Int32) (y1 : Int32) : Option (Int32 × g_S) := (g_bd (f134 s y1 1) fun v1 s2 => if v1 = 0 then ((f169 s2 (p2 - p2 / 32 * 32)).bind fun s5 => g_let (g_w s5 207 5 p3) fun s6 => g_let (g_w s6 207 6 p4) fun s7 => g_let (g_w s7 207 7 p5) fun s8 => (f168 s8 p1 (p2 / 192) ((p2 / 32) - (p2 / 32) / 6 * 6) 0).bind fun s10 => if p6 = 0 then (if (s10 199 21) = 0 then (some ((0, s10))) else (some ((1, s10)))) else (if p6 = 1 then (if (s10 199 22) = 0 then (some ((0, s10))) else (some ((1, s10)))) else (some ((s10 199 19, s10))))) else (some ((0, s2))))
theorem P170_40 {d ex : Nat} {s : g_S} {p1 : Int32} {p2 : Int32} {p3 : Int32} {p4 : Int32} {p5 : Int32} {p6 : Int32} {y1 : Int32}   {z : (Int32 × g_S)} (H : f170_40 s p1 p2 p3 p4 p5 p6 y1 = some z) (hd : 79 ≤ d)  : n_R X (d + 1) 170 40 [some (.ref 199), some (.int p1), some (.int p2), some (.int p3), some (.int p4), some (.int p5), some (.int p6)] [.int y1, .ref 199] (g_M s ex) (g_rSI z ex) := by
  unfold f170_40 at H
  refine g_go 1 md_170 (i1 := 41) rfl ?_
  obtain ⟨v1, s2, hv1, H⟩ := g_bdp H
  refine n_callv (n_q md_170 rfl) (As := [.ref 199, .int y1, .int 1]) (rest := []) rfl rfl (Nat.le_of_ble_eq_true rfl) rfl (g_recv (b := 0) rfl t_199 rfl) (C134 (by omega) hv1) ?_
  by_cases h3 : v1 = 0
  · rw [if_pos h3] at H
    refine n_ifT (n_q md_170 rfl) (decide_eq_true h3) ?_
    refine g_go 3 md_170 (i1 := 48) rfl ?_
    refine n_bin (n_q md_170 rfl) (g_rem (by decide : ¬ (32 : Int32) = 0)) ?_
    obtain ⟨s5, hs5, H⟩ := g_bind H
    refine n_call (n_q md_170 rfl) (As := [.ref 199, .int (p2 - p2 / 32 * 32)]) (rest := []) rfl rfl (Nat.le_of_ble_eq_true rfl) rfl (g_recv (b := 0) rfl t_199 rfl) (C169 (by omega) hs5) ?_
    refine g_go 1 md_170 (i1 := 51) rfl ?_
    refine g_getr 207 (n_q md_170 rfl) t_199 rfl ?_
    refine g_go 2 md_170 (i1 := 54) rfl ?_
    obtain ⟨s6, es6, H⟩ := g_letp H
    refine g_iast (n_q md_170 rfl) t_207 (rfl : m_in 5 8 = true) es6 ?_
    refine g_go 1 md_170 (i1 := 56) rfl ?_
    refine g_getr 207 (n_q md_170 rfl) t_199 rfl ?_
    refine g_go 2 md_170 (i1 := 59) rfl ?_
    obtain ⟨s7, es7, H⟩ := g_letp H
    refine g_iast (n_q md_170 rfl) t_207 (rfl : m_in 6 8 = true) es7 ?_
    refine g_go 1 md_170 (i1 := 61) rfl ?_
    refine g_getr 207 (n_q md_170 rfl) t_199 rfl ?_
    refine g_go 2 md_170 (i1 := 64) rfl ?_
    obtain ⟨s8, es8, H⟩ := g_letp H
    refine g_iast (n_q md_170 rfl) t_207 (rfl : m_in 7 8 = true) es8 ?_
    refine g_go 4 md_170 (i1 := 69) rfl ?_
    refine n_bin (n_q md_170 rfl) (g_div (by decide : ¬ (192 : Int32) = 0)) ?_
    refine g_go 2 md_170 (i1 := 72) rfl ?_
    refine n_bin (n_q md_170 rfl) (g_div (by decide : ¬ (32 : Int32) = 0)) ?_
    refine g_go 1 md_170 (i1 := 74) rfl ?_
    refine n_bin (n_q md_170 rfl) (g_rem (by decide : ¬ (6 : Int32) = 0)) ?_
    refine g_go 1 md_170 (i1 := 76) rfl ?_
    obtain ⟨s10, hs10, H⟩ := g_bind H
    refine n_call (n_q md_170 rfl) (As := [.ref 199, .int p1, .int (p2 / 192), .int ((p2 / 32) - (p2 / 32) / 6 * 6), .int 0]) (rest := []) rfl rfl (Nat.le_of_ble_eq_true rfl) rfl (g_recv (b := 0) rfl t_199 rfl) (C168 (by omega) hs10) ?_
    refine g_go 1 md_170 (i1 := 78) rfl ?_
    by_cases h11 : p6 = 0
    · rw [if_pos h11] at H
      refine n_ifF (n_q md_170 rfl) (fun e1 => of_decide_eq_true e1 h11) ?_
      refine g_go 1 md_170 (i1 := 80) rfl ?_
      refine g_getf (n_q md_170 rfl) t_199 rfl ?_
      by_cases h12 : (s10 199 21) = 0
      · rw [if_pos h12] at H
        refine n_ifT (n_q md_170 rfl) (decide_eq_true h12) ?_
        refine g_go 2 md_170 (i1 := 98) rfl ?_
        cases H
        exact n_iret (n_q md_170 rfl) (Or.inl rfl)
      · rw [if_neg h12] at H
        refine n_ifF (n_q md_170 rfl) (fun e1 => h12 (of_decide_eq_true e1)) ?_
        refine g_go 2 md_170 (i1 := 98) rfl ?_
        cases H
        exact n_iret (n_q md_170 rfl) (Or.inl rfl)
    · rw [if_neg h11] at H
      refine n_ifT (n_q md_170 rfl) (decide_eq_true h11) ?_
      refine g_go 2 md_170 (i1 := 88) rfl ?_
      by_cases h12 : p6 = 1
      · rw [if_pos h12] at H
        refine n_cmpF (n_q md_170 rfl) (fun e1 => of_decide_eq_true e1 h12) ?_
        refine g_go 1 md_170 (i1 := 90) rfl ?_
        refine g_getf (n_q md_170 rfl) t_199 rfl ?_
        by_cases h13 : (s10 199 22) = 0
        · rw [if_pos h13] at H
          refine n_ifT (n_q md_170 rfl) (decide_eq_true h13) ?_
          refine g_go 2 md_170 (i1 := 98) rfl ?_
          cases H
          exact n_iret (n_q md_170 rfl) (Or.inl rfl)
        · rw [if_neg h13] at H
          refine n_ifF (n_q md_170 rfl) (fun e1 => h13 (of_decide_eq_true e1)) ?_
          refine g_go 2 md_170 (i1 := 98) rfl ?_
          cases H
          exact n_iret (n_q md_170 rfl) (Or.inl rfl)
      · rw [if_neg h12] at H
        refine n_cmpT (n_q md_170 rfl) (decide_eq_true h12) ?_
        refine g_go 1 md_170 (i1 := 97) rfl ?_
        refine g_getf (n_q md_170 rfl) t_199 rfl ?_
        cases H
        exact n_iret (n_q md_170 rfl) (Or.inl rfl)
  · rw [if_neg h3] at H
    refine n_ifF (n_q md_170 rfl) (fun e1 => h3 (of_decide_eq_true e1)) ?_
    refine g_go 1 md_170 (i1 := 44) rfl ?_
    cases H
    exact n_iret (n_q md_170 rfl) (Or.inl rfl)
noncomputable def f170_37 (s : g_S) (p1 : Int32) (p2 : Int32) (p3 : Int32) (p4 : Int32) (p5 : Int32) (p6 : Int32) : Option (Int32 × g_S) := (f170_40 s p1 p2 p3 p4 p5 p6 1)
theorem P170_37 {d ex : Nat} {s : g_S} {p1 : Int32} {p2 : Int32} {p3 : Int32} {p4 : Int32} {p5 : Int32} {p6 : Int32}   {z : (Int32 × g_S)} (H : f170_37 s p1 p2 p3 p4 p5 p6 = some z) (hd : 79 ≤ d)  : n_R X (d + 1) 170 37 [some (.ref 199), some (.int p1), some (.int p2), some (.int p3), some (.int p4), some (.int p5), some (.int p6)] [.ref 199] (g_M s ex) (g_rSI z ex) := by
  unfold f170_37 at H
  refine g_go 2 md_170 (i1 := 40) rfl ?_
  exact P170_40 H hd
noncomputable def f170 (s : g_S) (p1 : Int32) (p2 : Int32) (p3 : Int32) (p4 : Int32) (p5 : Int32) (p6 : Int32) : Option (Int32 × g_S) := (g_let (g_w s 199 0 0) fun s1 => (f135 s1 p1 0 ((s1 199 12) - 1)).bind fun v2 => if v2 = 0 then (f170_37 s1 p1 p2 p3 p4 p5 p6) else ((f135 s1 p2 0 1151).bind fun v4 => if v4 = 0 then (f170_37 s1 p1 p2 p3 p4 p5 p6) else ((f135 s1 p3 0 3).bind fun v6 => if v6 = 0 then (f170_37 s1 p1 p2 p3 p4 p5 p6) else ((f135 s1 p4 0 9999).bind fun v8 => if v8 = 0 then (f170_37 s1 p1 p2 p3 p4 p5 p6) else ((f135 s1 p5 0 9999).bind fun v10 => if v10 = 0 then (f170_37 s1 p1 p2 p3 p4 p5 p6) else ((f135 s1 p6 0 2).bind fun v12 => if v12 = 0 then (f170_37 s1 p1 p2 p3 p4 p5 p6) else (f170_40 s1 p1 p2 p3 p4 p5 p6 0)))))))
theorem C170 {d ex : Nat} {s : g_S} {p1 : Int32} {p2 : Int32} {p3 : Int32} {p4 : Int32} {p5 : Int32} {p6 : Int32}  {z : Int32 × g_S} (hd : 79 < d) (H : f170 s p1 p2 p3 p4 p5 p6 = some z) : n_C X d 170 [.ref 199, .int p1, .int p2, .int p3, .int p4, .int p5, .int p6] (g_M s ex) (g_rSI z ex) := by
  obtain ⟨d, rfl⟩ : ∃ d1, d = d1 + 1 := ⟨d - 1, by omega⟩
  replace hd := Nat.le_of_lt_succ hd
  refine ⟨Nat.le_of_ble_eq_true rfl, ?_⟩
  rw [md_170]
  show n_R X (d + 1) 170 0 [some (.ref 199), some (.int p1), some (.int p2), some (.int p3), some (.int p4), some (.int p5), some (.int p6)] [] (g_M s ex) _
  unfold f170 at H
  refine g_go 2 md_170 (i1 := 2) rfl ?_
  obtain ⟨s1, es1, H⟩ := g_letp H
  refine g_putf (n_q md_170 rfl) t_199 rfl rfl es1 ?_
  refine g_go 4 md_170 (i1 := 7) rfl ?_
  refine g_getf (n_q md_170 rfl) t_199 rfl ?_
  refine g_go 2 md_170 (i1 := 10) rfl ?_
  obtain ⟨v2, hv2, H⟩ := g_bind H
  refine n_callv (n_q md_170 rfl) (As := [.int p1, .int 0, .int ((s1 199 12) - 1)]) (rest := [.ref 199]) rfl rfl (Nat.le_of_ble_eq_true rfl) rfl rfl (C135 (by omega) hv2) ?_
  by_cases h3 : v2 = 0
  · rw [if_pos h3] at H
    refine n_ifT (n_q md_170 rfl) (decide_eq_true h3) ?_
    exact P170_37 H hd
  · rw [if_neg h3] at H
    refine n_ifF (n_q md_170 rfl) (fun e1 => h3 (of_decide_eq_true e1)) ?_
    refine g_go 3 md_170 (i1 := 15) rfl ?_
    obtain ⟨v4, hv4, H⟩ := g_bind H
    refine n_callv (n_q md_170 rfl) (As := [.int p2, .int 0, .int 1151]) (rest := [.ref 199]) rfl rfl (Nat.le_of_ble_eq_true rfl) rfl rfl (C135 (by omega) hv4) ?_
    by_cases h5 : v4 = 0
    · rw [if_pos h5] at H
      refine n_ifT (n_q md_170 rfl) (decide_eq_true h5) ?_
      exact P170_37 H hd
    · rw [if_neg h5] at H
      refine n_ifF (n_q md_170 rfl) (fun e1 => h5 (of_decide_eq_true e1)) ?_
      refine g_go 3 md_170 (i1 := 20) rfl ?_
      obtain ⟨v6, hv6, H⟩ := g_bind H
      refine n_callv (n_q md_170 rfl) (As := [.int p3, .int 0, .int 3]) (rest := [.ref 199]) rfl rfl (Nat.le_of_ble_eq_true rfl) rfl rfl (C135 (by omega) hv6) ?_
      by_cases h7 : v6 = 0
      · rw [if_pos h7] at H
        refine n_ifT (n_q md_170 rfl) (decide_eq_true h7) ?_
        exact P170_37 H hd
      · rw [if_neg h7] at H
        refine n_ifF (n_q md_170 rfl) (fun e1 => h7 (of_decide_eq_true e1)) ?_
        refine g_go 3 md_170 (i1 := 25) rfl ?_
        obtain ⟨v8, hv8, H⟩ := g_bind H
        refine n_callv (n_q md_170 rfl) (As := [.int p4, .int 0, .int 9999]) (rest := [.ref 199]) rfl rfl (Nat.le_of_ble_eq_true rfl) rfl rfl (C135 (by omega) hv8) ?_
        by_cases h9 : v8 = 0
        · rw [if_pos h9] at H
          refine n_ifT (n_q md_170 rfl) (decide_eq_true h9) ?_
          exact P170_37 H hd
        · rw [if_neg h9] at H
          refine n_ifF (n_q md_170 rfl) (fun e1 => h9 (of_decide_eq_true e1)) ?_
          refine g_go 3 md_170 (i1 := 30) rfl ?_
          obtain ⟨v10, hv10, H⟩ := g_bind H
          refine n_callv (n_q md_170 rfl) (As := [.int p5, .int 0, .int 9999]) (rest := [.ref 199]) rfl rfl (Nat.le_of_ble_eq_true rfl) rfl rfl (C135 (by omega) hv10) ?_
          by_cases h11 : v10 = 0
          · rw [if_pos h11] at H
            refine n_ifT (n_q md_170 rfl) (decide_eq_true h11) ?_
            exact P170_37 H hd
          · rw [if_neg h11] at H
            refine n_ifF (n_q md_170 rfl) (fun e1 => h11 (of_decide_eq_true e1)) ?_
            refine g_go 3 md_170 (i1 := 35) rfl ?_
            obtain ⟨v12, hv12, H⟩ := g_bind H
            refine n_callv (n_q md_170 rfl) (As := [.int p6, .int 0, .int 2]) (rest := [.ref 199]) rfl rfl (Nat.le_of_ble_eq_true rfl) rfl rfl (C135 (by omega) hv12) ?_
            by_cases h13 : v12 = 0
            · rw [if_pos h13] at H
              refine n_ifF (n_q md_170 rfl) (fun e1 => of_decide_eq_true e1 h13) ?_
              exact P170_37 H hd
            · rw [if_neg h13] at H
              refine n_ifT (n_q md_170 rfl) (decide_eq_true h13) ?_
              refine g_go 1 md_170 (i1 := 40) rfl ?_
              exact P170_40 H hd

theorem md_171 : m_md 171 = m_X8_lets := rfl
noncomputable def f171_42 (s : g_S) (p1 : Int32) (p2 : Int32) (p3 : Int32) : Option (Int32 × g_S) := ((f168 s p1 p2 0 p3).bind fun s2 => if p3 = 0 then (if m_isb (s2 199 25) = true then some ((s2 199 25, s2)) else none) else (if m_isb (s2 199 24) = true then some ((s2 199 24, s2)) else none))
theorem P171_42 {d ex : Nat} {s : g_S} {p1 : Int32} {p2 : Int32} {p3 : Int32} {u4 : Option Value}   {z : (Int32 × g_S)} (H : f171_42 s p1 p2 p3 = some z) (hd : 79 ≤ d)  : n_R X (d + 1) 171 42 [some (.ref 199), some (.int p1), some (.int p2), some (.int p3), u4] [] (g_M s ex) (g_rSI z ex) := by
  unfold f171_42 at H
  refine g_go 5 md_171 (i1 := 47) rfl ?_
  obtain ⟨s2, hs2, H⟩ := g_bind H
  refine n_call (n_q md_171 rfl) (As := [.ref 199, .int p1, .int p2, .int 0, .int p3]) (rest := []) rfl rfl (Nat.le_of_ble_eq_true rfl) rfl (g_recv (b := 0) rfl t_199 rfl) (C168 (by omega) hs2) ?_
  refine g_go 1 md_171 (i1 := 49) rfl ?_
  by_cases h3 : p3 = 0
  · rw [if_pos h3] at H
    refine n_ifF (n_q md_171 rfl) (fun e1 => of_decide_eq_true e1 h3) ?_
    refine g_go 1 md_171 (i1 := 51) rfl ?_
    refine g_getf (n_q md_171 rfl) t_199 rfl ?_
    refine g_go 1 md_171 (i1 := 55) rfl ?_
    obtain ⟨hb4, H⟩ := g_gd H
    cases H
    exact n_iret (n_q md_171 rfl) (Or.inr hb4)
  · rw [if_neg h3] at H
    refine n_ifT (n_q md_171 rfl) (decide_eq_true h3) ?_
    refine g_go 1 md_171 (i1 := 54) rfl ?_
    refine g_getf (n_q md_171 rfl) t_199 rfl ?_
    obtain ⟨hb4, H⟩ := g_gd H
    cases H
    exact n_iret (n_q md_171 rfl) (Or.inr hb4)
noncomputable def f171_32 (s : g_S) (p1 : Int32) (p2 : Int32) (p3 : Int32) (x4 : Int32) : Option ((Int32 × g_S) ⊕ (Int32 × g_S)) := (if x4 < 8 then (if m_in x4 8 = true then g_let (g_w s 207 x4.toNatClampNeg 0) fun s3 => some (.inl (x4 + 1, s3)) else none) else (Option.map (fun w => (.inr (w) : ((Int32 × g_S) ⊕ (Int32 × g_S)))) (f171_42 s p1 p2 p3)))
theorem P171_32 {d ex : Nat} {rr : m_R} {s : g_S} {p1 : Int32} {p2 : Int32} {p3 : Int32} {x4 : Int32}   {z : ((Int32 × g_S) ⊕ (Int32 × g_S))} (H : f171_32 s p1 p2 p3 x4 = some z) (hd : 79 ≤ d) (K0 : ∀ S : Int32 × g_S, z = .inl S → n_R X (d + 1) 171 32 [some (.ref 199), some (.int p1), some (.int p2), some (.int p3), some (.int S.1)] [] (g_M S.2 ex) rr) (Kr : ∀ q, z = .inr (q) → g_rSI q ex = rr) : n_R X (d + 1) 171 32 [some (.ref 199), some (.int p1), some (.int p2), some (.int p3), some (.int x4)] [] (g_M s ex) rr := by
  unfold f171_32 at H
  refine g_go 2 md_171 (i1 := 34) rfl ?_
  by_cases h1 : x4 < 8
  · rw [if_pos h1] at H
    refine n_cmpF (n_q md_171 rfl) (fun e1 => absurd (of_decide_eq_true e1) (Int32.not_le.mpr h1)) ?_
    refine g_go 1 md_171 (i1 := 36) rfl ?_
    refine g_getr 207 (n_q md_171 rfl) t_199 rfl ?_
    refine g_go 2 md_171 (i1 := 39) rfl ?_
    obtain ⟨h2, H⟩ := g_gd H
    obtain ⟨s3, es3, H⟩ := g_letp H
    refine g_iast (n_q md_171 rfl) t_207 h2 es3 ?_
    refine g_go 2 md_171 (i1 := 32) (ls1 := [some (.ref 199), some (.int p1), some (.int p2), some (.int p3), some (.int (x4 + 1))]) rfl ?_
    cases H
    exact K0 (x4 + 1, s3) rfl
  · rw [if_neg h1] at H
    refine n_cmpT (n_q md_171 rfl) (decide_eq_true (Int32.not_lt.mp h1)) ?_
    obtain ⟨w, hw, H⟩ := g_mapp H
    subst H
    rw [← Kr _ rfl]
    exact P171_42 hw hd
noncomputable def f171_32L (s : g_S) (p1 : Int32) (p2 : Int32) (p3 : Int32) (x4 : Int32) : Option (Int32 × g_S) := g_run (fun S : Int32 × g_S => f171_32 S.2 p1 p2 p3 S.1) (x4, s)
theorem f171_32L_eq (s : g_S) (p1 : Int32) (p2 : Int32) (p3 : Int32) (x4 : Int32) : f171_32L s p1 p2 p3 x4 = g_st (f171_32 s p1 p2 p3 x4) (fun S => f171_32L S.2 p1 p2 p3 S.1) := by
  unfold f171_32L
  exact g_run_eq _ _
theorem P171_32L {d ex : Nat} {s : g_S} {p1 : Int32} {p2 : Int32} {p3 : Int32} {x4 : Int32}   {z : (Int32 × g_S)} (H : f171_32L s p1 p2 p3 x4 = some z) (hd : 79 ≤ d)  : n_R X (d + 1) 171 32 [some (.ref 199), some (.int p1), some (.int p2), some (.int p3), some (.int x4)] [] (g_M s ex) (g_rSI z ex) := by
  unfold f171_32L at H
  refine g_rs (Q := fun S => n_R X (d + 1) 171 32 [some (.ref 199), some (.int p1), some (.int p2), some (.int p3), some (.int S.1)] [] (g_M S.2 ex) (g_rSI z ex)) H ?_
  intro S w hb K0 KK
  refine P171_32 hb hd ?_ ?_
  · exact fun S1 e1 => K0 S1 e1
  · exact fun q e1 => by rw [KK q e1]
noncomputable def f171_25 (s : g_S) (p1 : Int32) (p2 : Int32) (p3 : Int32) (y1 : Int32) : Option (Int32 × g_S) := (g_bd (f134 s y1 1) fun v1 s2 => if v1 = 0 then (f171_32L s2 p1 p2 p3 0) else (some ((0, s2))))
theorem P171_25 {d ex : Nat} {s : g_S} {p1 : Int32} {p2 : Int32} {p3 : Int32} {y1 : Int32} {u4 : Option Value}   {z : (Int32 × g_S)} (H : f171_25 s p1 p2 p3 y1 = some z) (hd : 79 ≤ d)  : n_R X (d + 1) 171 25 [some (.ref 199), some (.int p1), some (.int p2), some (.int p3), u4] [.int y1, .ref 199] (g_M s ex) (g_rSI z ex) := by
  unfold f171_25 at H
  refine g_go 1 md_171 (i1 := 26) rfl ?_
  obtain ⟨v1, s2, hv1, H⟩ := g_bdp H
  refine n_callv (n_q md_171 rfl) (As := [.ref 199, .int y1, .int 1]) (rest := []) rfl rfl (Nat.le_of_ble_eq_true rfl) rfl (g_recv (b := 0) rfl t_199 rfl) (C134 (by omega) hv1) ?_
  by_cases h3 : v1 = 0
  · rw [if_pos h3] at H
    refine n_ifT (n_q md_171 rfl) (decide_eq_true h3) ?_
    refine g_go 2 md_171 (i1 := 32) (ls1 := [some (.ref 199), some (.int p1), some (.int p2), some (.int p3), some (.int 0)]) rfl ?_
    exact P171_32L H hd
  · rw [if_neg h3] at H
    refine n_ifF (n_q md_171 rfl) (fun e1 => h3 (of_decide_eq_true e1)) ?_
    refine g_go 1 md_171 (i1 := 29) rfl ?_
    cases H
    exact n_iret (n_q md_171 rfl) (Or.inr rfl)
noncomputable def f171_22 (s : g_S) (p1 : Int32) (p2 : Int32) (p3 : Int32) : Option (Int32 × g_S) := (f171_25 s p1 p2 p3 1)
theorem P171_22 {d ex : Nat} {s : g_S} {p1 : Int32} {p2 : Int32} {p3 : Int32} {u4 : Option Value}   {z : (Int32 × g_S)} (H : f171_22 s p1 p2 p3 = some z) (hd : 79 ≤ d)  : n_R X (d + 1) 171 22 [some (.ref 199), some (.int p1), some (.int p2), some (.int p3), u4] [.ref 199] (g_M s ex) (g_rSI z ex) := by
  unfold f171_22 at H
  refine g_go 2 md_171 (i1 := 25) rfl ?_
  exact P171_25 H hd
noncomputable def f171 (s : g_S) (p1 : Int32) (p2 : Int32) (p3 : Int32) : Option (Int32 × g_S) := (g_let (g_w s 199 0 0) fun s1 => (f135 s1 p1 0 ((s1 199 12) - 1)).bind fun v2 => if v2 = 0 then (f171_22 s1 p1 p2 p3) else ((f135 s1 p2 0 5).bind fun v4 => if v4 = 0 then (f171_22 s1 p1 p2 p3) else ((f135 s1 p3 0 3).bind fun v6 => if v6 = 0 then (f171_22 s1 p1 p2 p3) else (f171_25 s1 p1 p2 p3 0))))
theorem C171 {d ex : Nat} {s : g_S} {p1 : Int32} {p2 : Int32} {p3 : Int32}  {z : Int32 × g_S} (hd : 79 < d) (H : f171 s p1 p2 p3 = some z) : n_C X d 171 [.ref 199, .int p1, .int p2, .int p3] (g_M s ex) (g_rSI z ex) := by
  obtain ⟨d, rfl⟩ : ∃ d1, d = d1 + 1 := ⟨d - 1, by omega⟩
  replace hd := Nat.le_of_lt_succ hd
  refine ⟨Nat.le_of_ble_eq_true rfl, ?_⟩
  rw [md_171]
  show n_R X (d + 1) 171 0 [some (.ref 199), some (.int p1), some (.int p2), some (.int p3), none] [] (g_M s ex) _
  unfold f171 at H
  refine g_go 2 md_171 (i1 := 2) rfl ?_
  obtain ⟨s1, es1, H⟩ := g_letp H
  refine g_putf (n_q md_171 rfl) t_199 rfl rfl es1 ?_
  refine g_go 4 md_171 (i1 := 7) rfl ?_
  refine g_getf (n_q md_171 rfl) t_199 rfl ?_
  refine g_go 2 md_171 (i1 := 10) rfl ?_
  obtain ⟨v2, hv2, H⟩ := g_bind H
  refine n_callv (n_q md_171 rfl) (As := [.int p1, .int 0, .int ((s1 199 12) - 1)]) (rest := [.ref 199]) rfl rfl (Nat.le_of_ble_eq_true rfl) rfl rfl (C135 (by omega) hv2) ?_
  by_cases h3 : v2 = 0
  · rw [if_pos h3] at H
    refine n_ifT (n_q md_171 rfl) (decide_eq_true h3) ?_
    exact P171_22 H hd
  · rw [if_neg h3] at H
    refine n_ifF (n_q md_171 rfl) (fun e1 => h3 (of_decide_eq_true e1)) ?_
    refine g_go 3 md_171 (i1 := 15) rfl ?_
    obtain ⟨v4, hv4, H⟩ := g_bind H
    refine n_callv (n_q md_171 rfl) (As := [.int p2, .int 0, .int 5]) (rest := [.ref 199]) rfl rfl (Nat.le_of_ble_eq_true rfl) rfl rfl (C135 (by omega) hv4) ?_
    by_cases h5 : v4 = 0
    · rw [if_pos h5] at H
      refine n_ifT (n_q md_171 rfl) (decide_eq_true h5) ?_
      exact P171_22 H hd
    · rw [if_neg h5] at H
      refine n_ifF (n_q md_171 rfl) (fun e1 => h5 (of_decide_eq_true e1)) ?_
      refine g_go 3 md_171 (i1 := 20) rfl ?_
      obtain ⟨v6, hv6, H⟩ := g_bind H
      refine n_callv (n_q md_171 rfl) (As := [.int p3, .int 0, .int 3]) (rest := [.ref 199]) rfl rfl (Nat.le_of_ble_eq_true rfl) rfl rfl (C135 (by omega) hv6) ?_
      by_cases h7 : v6 = 0
      · rw [if_pos h7] at H
        refine n_ifF (n_q md_171 rfl) (fun e1 => of_decide_eq_true e1 h7) ?_
        exact P171_22 H hd
      · rw [if_neg h7] at H
        refine n_ifT (n_q md_171 rfl) (decide_eq_true h7) ?_
        refine g_go 1 md_171 (i1 := 25) rfl ?_
        exact P171_25 H hd

theorem md_172 : m_md 172 = m_X8_pass := rfl
noncomputable def f172_126 (s : g_S) (p1 : Int32) (p2 : Int32) (p3 : Int32) (p4 : Int32) (p5 : Int32) : Option (Int32 × g_S) := (g_let (g_w s 199 26 ((s 199 26) + 1)) fun s1 => some (((s1 199 26) - 1, s1)))
theorem P172_126 {d ex : Nat} {s : g_S} {p1 : Int32} {p2 : Int32} {p3 : Int32} {p4 : Int32} {p5 : Int32} {u6 : Option Value}   {z : (Int32 × g_S)} (H : f172_126 s p1 p2 p3 p4 p5 = some z) (hd : 13 ≤ d)  : n_R X (d + 1) 172 126 [some (.ref 199), some (.int p1), some (.int p2), some (.int p3), some (.int p4), some (.int p5), u6] [] (g_M s ex) (g_rSI z ex) := by
  unfold f172_126 at H
  refine g_go 2 md_172 (i1 := 128) rfl ?_
  refine g_getf (n_q md_172 rfl) t_199 rfl ?_
  refine g_go 2 md_172 (i1 := 131) rfl ?_
  obtain ⟨s1, es1, H⟩ := g_letp H
  refine g_putf (n_q md_172 rfl) t_199 rfl rfl es1 ?_
  refine g_go 1 md_172 (i1 := 133) rfl ?_
  refine g_getf (n_q md_172 rfl) t_199 rfl ?_
  refine g_go 2 md_172 (i1 := 136) rfl ?_
  cases H
  exact n_iret (n_q md_172 rfl) (Or.inl rfl)
noncomputable def f172_113 (s : g_S) (p1 : Int32) (p2 : Int32) (p3 : Int32) (p4 : Int32) (p5 : Int32) (x6 : Int32) : Option ((Int32 × g_S) ⊕ (Int32 × g_S)) := (if x6 < 4 then (if m_in (s 199 26) 13 = true then if m_in x6 4 = true then g_let (g_w s (225 + (s 199 26).toNatClampNeg) x6.toNatClampNeg 0) fun s4 => some (.inl (x6 + 1, s4)) else none else none) else (Option.map (fun w => (.inr (w) : ((Int32 × g_S) ⊕ (Int32 × g_S)))) (f172_126 s p1 p2 p3 p4 p5)))
theorem P172_113 {d ex : Nat} {rr : m_R} {s : g_S} {p1 : Int32} {p2 : Int32} {p3 : Int32} {p4 : Int32} {p5 : Int32} {x6 : Int32}   {z : ((Int32 × g_S) ⊕ (Int32 × g_S))} (H : f172_113 s p1 p2 p3 p4 p5 x6 = some z) (hd : 13 ≤ d) (K0 : ∀ S : Int32 × g_S, z = .inl S → n_R X (d + 1) 172 113 [some (.ref 199), some (.int p1), some (.int p2), some (.int p3), some (.int p4), some (.int p5), some (.int S.1)] [] (g_M S.2 ex) rr) (Kr : ∀ q, z = .inr (q) → g_rSI q ex = rr) : n_R X (d + 1) 172 113 [some (.ref 199), some (.int p1), some (.int p2), some (.int p3), some (.int p4), some (.int p5), some (.int x6)] [] (g_M s ex) rr := by
  unfold f172_113 at H
  refine g_go 2 md_172 (i1 := 115) rfl ?_
  by_cases h1 : x6 < 4
  · rw [if_pos h1] at H
    refine n_cmpF (n_q md_172 rfl) (fun e1 => absurd (of_decide_eq_true e1) (Int32.not_le.mpr h1)) ?_
    refine g_go 1 md_172 (i1 := 117) rfl ?_
    refine g_getr 224 (n_q md_172 rfl) t_199 rfl ?_
    refine g_go 1 md_172 (i1 := 119) rfl ?_
    refine g_getf (n_q md_172 rfl) t_199 rfl ?_
    obtain ⟨h2, H⟩ := g_gd H
    refine g_aald (n_q md_172 rfl) ta_224 (by decide) h2 (g_range (g_inlt h2)) ?_
    refine g_go 2 md_172 (i1 := 123) rfl ?_
    obtain ⟨h3, H⟩ := g_gd H
    obtain ⟨s4, es4, H⟩ := g_letp H
    refine g_bast (n_q md_172 rfl) (te_224 (g_inlt h2)) h3 rfl es4 ?_
    refine g_go 2 md_172 (i1 := 113) (ls1 := [some (.ref 199), some (.int p1), some (.int p2), some (.int p3), some (.int p4), some (.int p5), some (.int (x6 + 1))]) rfl ?_
    cases H
    exact K0 (x6 + 1, s4) rfl
  · rw [if_neg h1] at H
    refine n_cmpT (n_q md_172 rfl) (decide_eq_true (Int32.not_lt.mp h1)) ?_
    obtain ⟨w, hw, H⟩ := g_mapp H
    subst H
    rw [← Kr _ rfl]
    exact P172_126 hw hd
noncomputable def f172_113L (s : g_S) (p1 : Int32) (p2 : Int32) (p3 : Int32) (p4 : Int32) (p5 : Int32) (x6 : Int32) : Option (Int32 × g_S) := g_run (fun S : Int32 × g_S => f172_113 S.2 p1 p2 p3 p4 p5 S.1) (x6, s)
theorem f172_113L_eq (s : g_S) (p1 : Int32) (p2 : Int32) (p3 : Int32) (p4 : Int32) (p5 : Int32) (x6 : Int32) : f172_113L s p1 p2 p3 p4 p5 x6 = g_st (f172_113 s p1 p2 p3 p4 p5 x6) (fun S => f172_113L S.2 p1 p2 p3 p4 p5 S.1) := by
  unfold f172_113L
  exact g_run_eq _ _
theorem P172_113L {d ex : Nat} {s : g_S} {p1 : Int32} {p2 : Int32} {p3 : Int32} {p4 : Int32} {p5 : Int32} {x6 : Int32}   {z : (Int32 × g_S)} (H : f172_113L s p1 p2 p3 p4 p5 x6 = some z) (hd : 13 ≤ d)  : n_R X (d + 1) 172 113 [some (.ref 199), some (.int p1), some (.int p2), some (.int p3), some (.int p4), some (.int p5), some (.int x6)] [] (g_M s ex) (g_rSI z ex) := by
  unfold f172_113L at H
  refine g_rs (Q := fun S => n_R X (d + 1) 172 113 [some (.ref 199), some (.int p1), some (.int p2), some (.int p3), some (.int p4), some (.int p5), some (.int S.1)] [] (g_M S.2 ex) (g_rSI z ex)) H ?_
  intro S w hb K0 KK
  refine P172_113 hb hd ?_ ?_
  · exact fun S1 e1 => K0 S1 e1
  · exact fun q e1 => by rw [KK q e1]
noncomputable def f172_98 (s : g_S) (p1 : Int32) (p2 : Int32) (p3 : Int32) (p4 : Int32) (p5 : Int32) (y0 : Nat) (y2 : Int32) : Option (Int32 × g_S) := (g_let (g_w s y0 4 y2) fun s1 => if m_in (s1 199 26) 13 = true then g_let (g_w s1 222 (s1 199 26).toNatClampNeg 9999) fun s3 => if m_in (s3 199 26) 13 = true then g_let (g_w s3 223 (s3 199 26).toNatClampNeg 0) fun s5 => f172_113L s5 p1 p2 p3 p4 p5 0 else none else none)
theorem P172_98 {d ex : Nat} {s : g_S} {p1 : Int32} {p2 : Int32} {p3 : Int32} {p4 : Int32} {p5 : Int32} {y0 : Nat} {y2 : Int32} {u6 : Option Value}  (hy0 : g_lay y0 = (1, (5, []))) {z : (Int32 × g_S)} (H : f172_98 s p1 p2 p3 p4 p5 y0 y2 = some z) (hd : 13 ≤ d)  : n_R X (d + 1) 172 98 [some (.ref 199), some (.int p1), some (.int p2), some (.int p3), some (.int p4), some (.int p5), u6] [.int y2, .int 4, .ref y0] (g_M s ex) (g_rSI z ex) := by
  unfold f172_98 at H
  obtain ⟨s1, es1, H⟩ := g_letp H
  refine g_iast (n_q md_172 rfl) hy0 (rfl : m_in 4 5 = true) es1 ?_
  refine g_go 1 md_172 (i1 := 100) rfl ?_
  refine g_getr 222 (n_q md_172 rfl) t_199 rfl ?_
  refine g_go 1 md_172 (i1 := 102) rfl ?_
  refine g_getf (n_q md_172 rfl) t_199 rfl ?_
  refine g_go 1 md_172 (i1 := 104) rfl ?_
  obtain ⟨h2, H⟩ := g_gd H
  obtain ⟨s3, es3, H⟩ := g_letp H
  refine g_iast (n_q md_172 rfl) t_222 h2 es3 ?_
  refine g_go 1 md_172 (i1 := 106) rfl ?_
  refine g_getr 223 (n_q md_172 rfl) t_199 rfl ?_
  refine g_go 1 md_172 (i1 := 108) rfl ?_
  refine g_getf (n_q md_172 rfl) t_199 rfl ?_
  refine g_go 1 md_172 (i1 := 110) rfl ?_
  obtain ⟨h4, H⟩ := g_gd H
  obtain ⟨s5, es5, H⟩ := g_letp H
  refine g_iast (n_q md_172 rfl) t_223 h4 es5 ?_
  refine g_go 2 md_172 (i1 := 113) (ls1 := [some (.ref 199), some (.int p1), some (.int p2), some (.int p3), some (.int p4), some (.int p5), some (.int 0)]) rfl ?_
  exact P172_113L H hd
noncomputable def f172_55 (s : g_S) (p1 : Int32) (p2 : Int32) (p3 : Int32) (p4 : Int32) (p5 : Int32) : Option (Int32 × g_S) := (if m_in (s 199 26) 13 = true then g_let (g_w s (209 + (s 199 26).toNatClampNeg) 0 p1) fun s2 => if m_in (s2 199 26) 13 = true then g_let (g_w s2 (209 + (s2 199 26).toNatClampNeg) 1 p2) fun s4 => if m_in (s4 199 26) 13 = true then g_let (g_w s4 (209 + (s4 199 26).toNatClampNeg) 2 p3) fun s6 => if m_in (s6 199 26) 13 = true then g_let (g_w s6 (209 + (s6 199 26).toNatClampNeg) 3 p4) fun s8 => if m_in (s8 199 26) 13 = true then if p5 = 0 then (f172_98 s8 p1 p2 p3 p4 p5 (209 + (s8 199 26).toNatClampNeg) 0) else (f172_98 s8 p1 p2 p3 p4 p5 (209 + (s8 199 26).toNatClampNeg) 1) else none else none else none else none else none)
theorem P172_55 {d ex : Nat} {s : g_S} {p1 : Int32} {p2 : Int32} {p3 : Int32} {p4 : Int32} {p5 : Int32} {u6 : Option Value}   {z : (Int32 × g_S)} (H : f172_55 s p1 p2 p3 p4 p5 = some z) (hd : 13 ≤ d)  : n_R X (d + 1) 172 55 [some (.ref 199), some (.int p1), some (.int p2), some (.int p3), some (.int p4), some (.int p5), u6] [] (g_M s ex) (g_rSI z ex) := by
  unfold f172_55 at H
  refine g_go 1 md_172 (i1 := 56) rfl ?_
  refine g_getr 208 (n_q md_172 rfl) t_199 rfl ?_
  refine g_go 1 md_172 (i1 := 58) rfl ?_
  refine g_getf (n_q md_172 rfl) t_199 rfl ?_
  obtain ⟨h1, H⟩ := g_gd H
  refine g_aald (n_q md_172 rfl) ta_208 (by decide) h1 (g_range (g_inlt h1)) ?_
  refine g_go 2 md_172 (i1 := 62) rfl ?_
  obtain ⟨s2, es2, H⟩ := g_letp H
  refine g_iast (n_q md_172 rfl) (te_208 (g_inlt h1)) (rfl : m_in 0 5 = true) es2 ?_
  refine g_go 1 md_172 (i1 := 64) rfl ?_
  refine g_getr 208 (n_q md_172 rfl) t_199 rfl ?_
  refine g_go 1 md_172 (i1 := 66) rfl ?_
  refine g_getf (n_q md_172 rfl) t_199 rfl ?_
  obtain ⟨h3, H⟩ := g_gd H
  refine g_aald (n_q md_172 rfl) ta_208 (by decide) h3 (g_range (g_inlt h3)) ?_
  refine g_go 2 md_172 (i1 := 70) rfl ?_
  obtain ⟨s4, es4, H⟩ := g_letp H
  refine g_iast (n_q md_172 rfl) (te_208 (g_inlt h3)) (rfl : m_in 1 5 = true) es4 ?_
  refine g_go 1 md_172 (i1 := 72) rfl ?_
  refine g_getr 208 (n_q md_172 rfl) t_199 rfl ?_
  refine g_go 1 md_172 (i1 := 74) rfl ?_
  refine g_getf (n_q md_172 rfl) t_199 rfl ?_
  obtain ⟨h5, H⟩ := g_gd H
  refine g_aald (n_q md_172 rfl) ta_208 (by decide) h5 (g_range (g_inlt h5)) ?_
  refine g_go 2 md_172 (i1 := 78) rfl ?_
  obtain ⟨s6, es6, H⟩ := g_letp H
  refine g_iast (n_q md_172 rfl) (te_208 (g_inlt h5)) (rfl : m_in 2 5 = true) es6 ?_
  refine g_go 1 md_172 (i1 := 80) rfl ?_
  refine g_getr 208 (n_q md_172 rfl) t_199 rfl ?_
  refine g_go 1 md_172 (i1 := 82) rfl ?_
  refine g_getf (n_q md_172 rfl) t_199 rfl ?_
  obtain ⟨h7, H⟩ := g_gd H
  refine g_aald (n_q md_172 rfl) ta_208 (by decide) h7 (g_range (g_inlt h7)) ?_
  refine g_go 2 md_172 (i1 := 86) rfl ?_
  obtain ⟨s8, es8, H⟩ := g_letp H
  refine g_iast (n_q md_172 rfl) (te_208 (g_inlt h7)) (rfl : m_in 3 5 = true) es8 ?_
  refine g_go 1 md_172 (i1 := 88) rfl ?_
  refine g_getr 208 (n_q md_172 rfl) t_199 rfl ?_
  refine g_go 1 md_172 (i1 := 90) rfl ?_
  refine g_getf (n_q md_172 rfl) t_199 rfl ?_
  obtain ⟨h9, H⟩ := g_gd H
  refine g_aald (n_q md_172 rfl) ta_208 (by decide) h9 (g_range (g_inlt h9)) ?_
  refine g_go 2 md_172 (i1 := 94) rfl ?_
  by_cases h10 : p5 = 0
  · rw [if_pos h10] at H
    refine n_ifT (n_q md_172 rfl) (decide_eq_true h10) ?_
    refine g_go 1 md_172 (i1 := 98) rfl ?_
    exact P172_98 (te_208 (g_inlt h9)) H hd
  · rw [if_neg h10] at H
    refine n_ifF (n_q md_172 rfl) (fun e1 => h10 (of_decide_eq_true e1)) ?_
    refine g_go 2 md_172 (i1 := 98) rfl ?_
    exact P172_98 (te_208 (g_inlt h9)) H hd
noncomputable def f172_27 (s : g_S) (p1 : Int32) (p2 : Int32) (p3 : Int32) (p4 : Int32) (p5 : Int32) (y1 : Int32) : Option (Int32 × g_S) := (g_bd (f134 s y1 1) fun v1 s2 => if v1 = 0 then (if (s2 199 26) = 13 then (some (((-1), s2))) else (if 1 < (s2 199 26) then (if m_in ((s2 199 26) - 1) 13 = true then if p2 < (s2 (209 + ((s2 199 26) - 1).toNatClampNeg) 1) then (some (((-2), s2))) else (f172_55 s2 p1 p2 p3 p4 p5) else none) else (f172_55 s2 p1 p2 p3 p4 p5))) else (some ((0, s2))))
theorem P172_27 {d ex : Nat} {s : g_S} {p1 : Int32} {p2 : Int32} {p3 : Int32} {p4 : Int32} {p5 : Int32} {y1 : Int32} {u6 : Option Value}   {z : (Int32 × g_S)} (H : f172_27 s p1 p2 p3 p4 p5 y1 = some z) (hd : 13 ≤ d)  : n_R X (d + 1) 172 27 [some (.ref 199), some (.int p1), some (.int p2), some (.int p3), some (.int p4), some (.int p5), u6] [.int y1, .ref 199] (g_M s ex) (g_rSI z ex) := by
  unfold f172_27 at H
  refine g_go 1 md_172 (i1 := 28) rfl ?_
  obtain ⟨v1, s2, hv1, H⟩ := g_bdp H
  refine n_callv (n_q md_172 rfl) (As := [.ref 199, .int y1, .int 1]) (rest := []) rfl rfl (Nat.le_of_ble_eq_true rfl) rfl (g_recv (b := 0) rfl t_199 rfl) (C134 (by omega) hv1) ?_
  by_cases h3 : v1 = 0
  · rw [if_pos h3] at H
    refine n_ifT (n_q md_172 rfl) (decide_eq_true h3) ?_
    refine g_go 1 md_172 (i1 := 33) rfl ?_
    refine g_getf (n_q md_172 rfl) t_199 rfl ?_
    refine g_go 1 md_172 (i1 := 35) rfl ?_
    by_cases h4 : (s2 199 26) = 13
    · rw [if_pos h4] at H
      refine n_cmpF (n_q md_172 rfl) (fun e1 => of_decide_eq_true e1 h4) ?_
      refine g_go 1 md_172 (i1 := 37) rfl ?_
      cases H
      exact n_iret (n_q md_172 rfl) (Or.inl rfl)
    · rw [if_neg h4] at H
      refine n_cmpT (n_q md_172 rfl) (decide_eq_true h4) ?_
      refine g_go 1 md_172 (i1 := 39) rfl ?_
      refine g_getf (n_q md_172 rfl) t_199 rfl ?_
      refine g_go 1 md_172 (i1 := 41) rfl ?_
      by_cases h5 : 1 < (s2 199 26)
      · rw [if_pos h5] at H
        refine n_cmpF (n_q md_172 rfl) (fun e1 => absurd (of_decide_eq_true e1) (Int32.not_le.mpr h5)) ?_
        refine g_go 2 md_172 (i1 := 44) rfl ?_
        refine g_getr 208 (n_q md_172 rfl) t_199 rfl ?_
        refine g_go 1 md_172 (i1 := 46) rfl ?_
        refine g_getf (n_q md_172 rfl) t_199 rfl ?_
        refine g_go 2 md_172 (i1 := 49) rfl ?_
        obtain ⟨h6, H⟩ := g_gd H
        refine g_aald (n_q md_172 rfl) ta_208 (by decide) h6 (g_range (g_inlt h6)) ?_
        refine g_go 1 md_172 (i1 := 51) rfl ?_
        refine g_iald (n_q md_172 rfl) (te_208 (g_inlt h6)) (rfl : m_in 1 5 = true) ?_
        by_cases h7 : p2 < (s2 (209 + ((s2 199 26) - 1).toNatClampNeg) 1)
        · rw [if_pos h7] at H
          refine n_cmpF (n_q md_172 rfl) (fun e1 => absurd (of_decide_eq_true e1) (Int32.not_le.mpr h7)) ?_
          refine g_go 1 md_172 (i1 := 54) rfl ?_
          cases H
          exact n_iret (n_q md_172 rfl) (Or.inl rfl)
        · rw [if_neg h7] at H
          refine n_cmpT (n_q md_172 rfl) (decide_eq_true (Int32.not_lt.mp h7)) ?_
          exact P172_55 H hd
      · rw [if_neg h5] at H
        refine n_cmpT (n_q md_172 rfl) (decide_eq_true (Int32.not_lt.mp h5)) ?_
        exact P172_55 H hd
  · rw [if_neg h3] at H
    refine n_ifF (n_q md_172 rfl) (fun e1 => h3 (of_decide_eq_true e1)) ?_
    refine g_go 1 md_172 (i1 := 31) rfl ?_
    cases H
    exact n_iret (n_q md_172 rfl) (Or.inl rfl)
noncomputable def f172_24 (s : g_S) (p1 : Int32) (p2 : Int32) (p3 : Int32) (p4 : Int32) (p5 : Int32) : Option (Int32 × g_S) := (f172_27 s p1 p2 p3 p4 p5 1)
theorem P172_24 {d ex : Nat} {s : g_S} {p1 : Int32} {p2 : Int32} {p3 : Int32} {p4 : Int32} {p5 : Int32} {u6 : Option Value}   {z : (Int32 × g_S)} (H : f172_24 s p1 p2 p3 p4 p5 = some z) (hd : 13 ≤ d)  : n_R X (d + 1) 172 24 [some (.ref 199), some (.int p1), some (.int p2), some (.int p3), some (.int p4), some (.int p5), u6] [.ref 199] (g_M s ex) (g_rSI z ex) := by
  unfold f172_24 at H
  refine g_go 2 md_172 (i1 := 27) rfl ?_
  exact P172_27 H hd
noncomputable def f172 (s : g_S) (p1 : Int32) (p2 : Int32) (p3 : Int32) (p4 : Int32) (p5 : Int32) : Option (Int32 × g_S) := (g_let (g_w s 199 0 0) fun s1 => (f135 s1 p1 0 5).bind fun v2 => if v2 = 0 then (f172_24 s1 p1 p2 p3 p4 p5) else ((f135 s1 p2 0 999).bind fun v4 => if v4 = 0 then (f172_24 s1 p1 p2 p3 p4 p5) else ((f135 s1 p3 0 999).bind fun v6 => if v6 = 0 then (f172_24 s1 p1 p2 p3 p4 p5) else ((f135 s1 p4 0 3).bind fun v8 => if v8 = 0 then (f172_24 s1 p1 p2 p3 p4 p5) else (f172_27 s1 p1 p2 p3 p4 p5 0)))))
theorem C172 {d ex : Nat} {s : g_S} {p1 : Int32} {p2 : Int32} {p3 : Int32} {p4 : Int32} {p5 : Int32}  {z : Int32 × g_S} (hd : 13 < d) (H : f172 s p1 p2 p3 p4 p5 = some z) : n_C X d 172 [.ref 199, .int p1, .int p2, .int p3, .int p4, .int p5] (g_M s ex) (g_rSI z ex) := by
  obtain ⟨d, rfl⟩ : ∃ d1, d = d1 + 1 := ⟨d - 1, by omega⟩
  replace hd := Nat.le_of_lt_succ hd
  refine ⟨Nat.le_of_ble_eq_true rfl, ?_⟩
  rw [md_172]
  show n_R X (d + 1) 172 0 [some (.ref 199), some (.int p1), some (.int p2), some (.int p3), some (.int p4), some (.int p5), none] [] (g_M s ex) _
  unfold f172 at H
  refine g_go 2 md_172 (i1 := 2) rfl ?_
  obtain ⟨s1, es1, H⟩ := g_letp H
  refine g_putf (n_q md_172 rfl) t_199 rfl rfl es1 ?_
  refine g_go 4 md_172 (i1 := 7) rfl ?_
  obtain ⟨v2, hv2, H⟩ := g_bind H
  refine n_callv (n_q md_172 rfl) (As := [.int p1, .int 0, .int 5]) (rest := [.ref 199]) rfl rfl (Nat.le_of_ble_eq_true rfl) rfl rfl (C135 (by omega) hv2) ?_
  by_cases h3 : v2 = 0
  · rw [if_pos h3] at H
    refine n_ifT (n_q md_172 rfl) (decide_eq_true h3) ?_
    exact P172_24 H hd
  · rw [if_neg h3] at H
    refine n_ifF (n_q md_172 rfl) (fun e1 => h3 (of_decide_eq_true e1)) ?_
    refine g_go 3 md_172 (i1 := 12) rfl ?_
    obtain ⟨v4, hv4, H⟩ := g_bind H
    refine n_callv (n_q md_172 rfl) (As := [.int p2, .int 0, .int 999]) (rest := [.ref 199]) rfl rfl (Nat.le_of_ble_eq_true rfl) rfl rfl (C135 (by omega) hv4) ?_
    by_cases h5 : v4 = 0
    · rw [if_pos h5] at H
      refine n_ifT (n_q md_172 rfl) (decide_eq_true h5) ?_
      exact P172_24 H hd
    · rw [if_neg h5] at H
      refine n_ifF (n_q md_172 rfl) (fun e1 => h5 (of_decide_eq_true e1)) ?_
      refine g_go 3 md_172 (i1 := 17) rfl ?_
      obtain ⟨v6, hv6, H⟩ := g_bind H
      refine n_callv (n_q md_172 rfl) (As := [.int p3, .int 0, .int 999]) (rest := [.ref 199]) rfl rfl (Nat.le_of_ble_eq_true rfl) rfl rfl (C135 (by omega) hv6) ?_
      by_cases h7 : v6 = 0
      · rw [if_pos h7] at H
        refine n_ifT (n_q md_172 rfl) (decide_eq_true h7) ?_
        exact P172_24 H hd
      · rw [if_neg h7] at H
        refine n_ifF (n_q md_172 rfl) (fun e1 => h7 (of_decide_eq_true e1)) ?_
        refine g_go 3 md_172 (i1 := 22) rfl ?_
        obtain ⟨v8, hv8, H⟩ := g_bind H
        refine n_callv (n_q md_172 rfl) (As := [.int p4, .int 0, .int 3]) (rest := [.ref 199]) rfl rfl (Nat.le_of_ble_eq_true rfl) rfl rfl (C135 (by omega) hv8) ?_
        by_cases h9 : v8 = 0
        · rw [if_pos h9] at H
          refine n_ifF (n_q md_172 rfl) (fun e1 => of_decide_eq_true e1 h9) ?_
          exact P172_24 H hd
        · rw [if_neg h9] at H
          refine n_ifT (n_q md_172 rfl) (decide_eq_true h9) ?_
          refine g_go 1 md_172 (i1 := 27) rfl ?_
          exact P172_27 H hd

end K7
