/-! METHODS, written by wip/whole/gen_51.py (4). -/
section K4
variable {X : m_X}
theorem md_89 : m_md 89 = m_X7_harm := rfl
noncomputable def f89_10 (s : g_S) (p1 : Int32) (p2 : Int32) (y0 : Int32) : Option ((Int32 ⊕ Nat) × g_S) := (g_tb (f116 s y0) fun _ s2 => (f118 s2 p2 999).bind fun v3 => g_tb (f116 s2 v3) fun _ s5 => g_let (g_w s5 22 3 p1) fun s6 => g_let (g_w s6 22 4 p2) fun s7 => some ((.inl (s5 22 3), s7)))
theorem P89_10 {d ex : Nat} {s : g_S} {p1 : Int32} {p2 : Int32} {y0 : Int32} {u3 : Option Value}   {z : ((Int32 ⊕ Nat) × g_S)} (H : f89_10 s p1 p2 y0 = some z) (hd : 13 ≤ d)  : n_R X (d + 1) 89 10 [some (.ref 0), some (.int p1), some (.int p2), u3] [.int y0] (g_M s ex) (g_rTI z ex) := by
  unfold f89_10 at H
  rcases g_tbp H with ⟨v1, s2, hv1, H⟩ | ⟨v1, s2, hv1, H⟩
  rotate_left
  · cases H
    refine n_callx (z := .inl none) (n_q md_89 rfl) (As := [.int y0]) (rest := []) rfl rfl (Nat.le_of_ble_eq_true rfl) rfl rfl (C116 (by omega) hv1) rfl
  refine n_call (n_q md_89 rfl) (As := [.int y0]) (rest := []) rfl rfl (Nat.le_of_ble_eq_true rfl) rfl rfl (C116 (by omega) hv1) ?_
  refine g_go 2 md_89 (i1 := 13) rfl ?_
  obtain ⟨v3, hv3, H⟩ := g_bind H
  refine n_callv (n_q md_89 rfl) (As := [.int p2, .int 999]) (rest := []) rfl rfl (Nat.le_of_ble_eq_true rfl) rfl rfl (C118 (by omega) hv3) ?_
  rcases g_tbp H with ⟨v4, s5, hv4, H⟩ | ⟨v4, s5, hv4, H⟩
  rotate_left
  · cases H
    refine n_callx (z := .inl none) (n_q md_89 rfl) (As := [.int v3]) (rest := []) rfl rfl (Nat.le_of_ble_eq_true rfl) rfl rfl (C116 (by omega) hv4) rfl
  refine n_call (n_q md_89 rfl) (As := [.int v3]) (rest := []) rfl rfl (Nat.le_of_ble_eq_true rfl) rfl rfl (C116 (by omega) hv4) ?_
  refine g_go 1 md_89 (i1 := 16) rfl ?_
  refine g_getr 22 (n_q md_89 rfl) t_0 rfl ?_
  refine g_getf (n_q md_89 rfl) t_22 rfl ?_
  refine g_go 2 md_89 (i1 := 20) (ls1 := [some (.ref 0), some (.int p1), some (.int p2), some (.int (s5 22 3))]) rfl ?_
  refine g_getr 22 (n_q md_89 rfl) t_0 rfl ?_
  refine g_go 1 md_89 (i1 := 22) rfl ?_
  obtain ⟨s6, es6, H⟩ := g_letp H
  refine g_putf (n_q md_89 rfl) t_22 rfl rfl es6 ?_
  refine g_go 1 md_89 (i1 := 24) rfl ?_
  refine g_getr 22 (n_q md_89 rfl) t_0 rfl ?_
  refine g_go 1 md_89 (i1 := 26) rfl ?_
  obtain ⟨s7, es7, H⟩ := g_letp H
  refine g_putf (n_q md_89 rfl) t_22 rfl rfl es7 ?_
  refine g_go 1 md_89 (i1 := 28) rfl ?_
  cases H
  exact n_iret (n_q md_89 rfl) (Or.inl rfl)
noncomputable def f89_7 (s : g_S) (p1 : Int32) (p2 : Int32) : Option ((Int32 ⊕ Nat) × g_S) := (f89_10 s p1 p2 1)
theorem P89_7 {d ex : Nat} {s : g_S} {p1 : Int32} {p2 : Int32} {u3 : Option Value}   {z : ((Int32 ⊕ Nat) × g_S)} (H : f89_7 s p1 p2 = some z) (hd : 13 ≤ d)  : n_R X (d + 1) 89 7 [some (.ref 0), some (.int p1), some (.int p2), u3] [] (g_M s ex) (g_rTI z ex) := by
  unfold f89_7 at H
  refine g_go 2 md_89 (i1 := 10) rfl ?_
  exact P89_10 H hd
noncomputable def f89 (s : g_S) (p1 : Int32) (p2 : Int32) : Option ((Int32 ⊕ Nat) × g_S) := (if p1 = ((-1)) then (f89_7 s p1 p2) else ((f118 s p1 5).bind fun v2 => if v2 = 0 then (f89_10 s p1 p2 0) else (f89_7 s p1 p2)))
theorem C89 {d ex : Nat} {s : g_S} {p1 : Int32} {p2 : Int32}  {z : (Int32 ⊕ Nat) × g_S} (hd : 13 < d) (H : f89 s p1 p2 = some z) : n_C X d 89 [.ref 0, .int p1, .int p2] (g_M s ex) (g_rTI z ex) := by
  obtain ⟨d, rfl⟩ : ∃ d1, d = d1 + 1 := ⟨d - 1, by omega⟩
  replace hd := Nat.le_of_lt_succ hd
  refine ⟨Nat.le_of_ble_eq_true rfl, ?_⟩
  rw [md_89]
  show n_R X (d + 1) 89 0 [some (.ref 0), some (.int p1), some (.int p2), none] [] (g_M s ex) _
  unfold f89 at H
  refine g_go 2 md_89 (i1 := 2) rfl ?_
  by_cases h1 : p1 = ((-1))
  · rw [if_pos h1] at H
    refine n_cmpT (n_q md_89 rfl) (decide_eq_true h1) ?_
    exact P89_7 H hd
  · rw [if_neg h1] at H
    refine n_cmpF (n_q md_89 rfl) (fun e1 => h1 (of_decide_eq_true e1)) ?_
    refine g_go 2 md_89 (i1 := 5) rfl ?_
    obtain ⟨v2, hv2, H⟩ := g_bind H
    refine n_callv (n_q md_89 rfl) (As := [.int p1, .int 5]) (rest := []) rfl rfl (Nat.le_of_ble_eq_true rfl) rfl rfl (C118 (by omega) hv2) ?_
    by_cases h3 : v2 = 0
    · rw [if_pos h3] at H
      refine n_ifT (n_q md_89 rfl) (decide_eq_true h3) ?_
      refine g_go 1 md_89 (i1 := 10) rfl ?_
      exact P89_10 H hd
    · rw [if_neg h3] at H
      refine n_ifF (n_q md_89 rfl) (fun e1 => h3 (of_decide_eq_true e1)) ?_
      exact P89_7 H hd

theorem md_90 : m_md 90 = m_X7_holder := rfl
noncomputable def f90 (s : g_S) : Option (Int32) := ((f2 s 22).bind fun v1 => some v1)
theorem C90 {d ex : Nat} {s : g_S}  {z : Int32} (hd : 13 < d) (H : f90 s = some z) : n_C X d 90 [.ref 0] (g_M s ex) (g_rPI s z ex) := by
  obtain ⟨d, rfl⟩ : ∃ d1, d = d1 + 1 := ⟨d - 1, by omega⟩
  replace hd := Nat.le_of_lt_succ hd
  refine ⟨Nat.le_of_ble_eq_true rfl, ?_⟩
  rw [md_90]
  show n_R X (d + 1) 90 0 [some (.ref 0)] [] (g_M s ex) _
  unfold f90 at H
  refine g_go 1 md_90 (i1 := 1) rfl ?_
  refine g_getr 22 (n_q md_90 rfl) t_0 rfl ?_
  obtain ⟨v1, hv1, H⟩ := g_bind H
  refine n_callv (n_q md_90 rfl) (As := [.ref 22]) (rest := []) rfl rfl (Nat.le_of_ble_eq_true rfl) rfl (g_recv (b := 0) rfl t_22 rfl) (C2 t_22 (by omega) hv1) ?_
  cases H
  exact n_iret (n_q md_90 rfl) (Or.inl rfl)

theorem md_120 : m_md 120 = m_X7_lawInForce := rfl
noncomputable def f120 (s : g_S) : Option (Nat) := ((f119 s (s 22 5)).bind fun v1 => if v1 = 0 then (some 3) else (if m_in (s 22 5) 4 = true then some (86 + 8 * (s 22 5).toNatClampNeg) else none))
theorem C120 {d ex : Nat} {s : g_S}  {z : Nat} (hd : 14 < d) (H : f120 s = some z) : n_C X d 120 [.ref 0] (g_M s ex) (g_rPR s z ex) := by
  obtain ⟨d, rfl⟩ : ∃ d1, d = d1 + 1 := ⟨d - 1, by omega⟩
  replace hd := Nat.le_of_lt_succ hd
  refine ⟨Nat.le_of_ble_eq_true rfl, ?_⟩
  rw [md_120]
  show n_R X (d + 1) 120 0 [some (.ref 0)] [] (g_M s ex) _
  unfold f120 at H
  refine g_go 2 md_120 (i1 := 2) rfl ?_
  refine g_getr 22 (n_q md_120 rfl) t_0 rfl ?_
  refine g_getf (n_q md_120 rfl) t_22 rfl ?_
  obtain ⟨v1, hv1, H⟩ := g_bind H
  refine n_callv (n_q md_120 rfl) (As := [.ref 0, .int (s 22 5)]) (rest := []) rfl rfl (Nat.le_of_ble_eq_true rfl) rfl (g_recv (b := 0) rfl t_0 rfl) (C119 (by omega) hv1) ?_
  by_cases h2 : v1 = 0
  · rw [if_pos h2] at H
    refine n_ifT (n_q md_120 rfl) (decide_eq_true h2) ?_
    refine g_go 1 md_120 (i1 := 14) rfl ?_
    refine g_getr 3 (n_q md_120 rfl) t_0 rfl ?_
    cases H
    exact n_end (n_q md_120 rfl) (fun _ => rfl)
  · rw [if_neg h2] at H
    refine n_ifF (n_q md_120 rfl) (fun e1 => h2 (of_decide_eq_true e1)) ?_
    refine g_go 1 md_120 (i1 := 7) rfl ?_
    refine g_getr 2 (n_q md_120 rfl) t_0 rfl ?_
    refine g_go 1 md_120 (i1 := 9) rfl ?_
    refine g_getr 22 (n_q md_120 rfl) t_0 rfl ?_
    refine g_getf (n_q md_120 rfl) t_22 rfl ?_
    obtain ⟨h3, H⟩ := g_gd H
    refine g_aald (n_q md_120 rfl) ta_2 (by decide) h3 (g_range (g_inlt h3)) ?_
    refine g_go 1 md_120 (i1 := 15) rfl ?_
    cases H
    exact n_end (n_q md_120 rfl) (fun _ => rfl)

theorem md_91 : m_md 91 = m_X7_name := rfl
noncomputable def f91 (s : g_S) (p1 : Int32) (p2 : Int32) : Option ((Int32 ⊕ Nat) × g_S) := (g_tb (f117 s p1) fun _ s2 => (f118 s2 p2 7).bind fun v3 => g_tb (f116 s2 v3) fun _ s5 => (f2 s5 22).bind fun v6 => if p1 < 1 then (some ((.inl ((-1)), s5))) else (if v6 < p1 then (some ((.inl ((-1)), s5))) else ((f120 s5).bind fun v9 => if g_lay v9 = o_4 v9 then (f4 s5 22 p1 v6 v9 21).bind fun s12 => if m_in p2 8 = true then some ((.inl (s12 21 p2.toNatClampNeg), s12)) else none else none)))
theorem C91 {d ex : Nat} {s : g_S} {p1 : Int32} {p2 : Int32}  {z : (Int32 ⊕ Nat) × g_S} (hd : 15 < d) (H : f91 s p1 p2 = some z) : n_C X d 91 [.ref 0, .int p1, .int p2] (g_M s ex) (g_rTI z ex) := by
  obtain ⟨d, rfl⟩ : ∃ d1, d = d1 + 1 := ⟨d - 1, by omega⟩
  replace hd := Nat.le_of_lt_succ hd
  refine ⟨Nat.le_of_ble_eq_true rfl, ?_⟩
  rw [md_91]
  show n_R X (d + 1) 91 0 [some (.ref 0), some (.int p1), some (.int p2), none] [] (g_M s ex) _
  unfold f91 at H
  refine g_go 2 md_91 (i1 := 2) rfl ?_
  rcases g_tbp H with ⟨v1, s2, hv1, H⟩ | ⟨v1, s2, hv1, H⟩
  rotate_left
  · cases H
    refine n_callx (z := .inl none) (n_q md_91 rfl) (As := [.ref 0, .int p1]) (rest := []) rfl rfl (Nat.le_of_ble_eq_true rfl) rfl (g_recv (b := 0) rfl t_0 rfl) (C117 (by omega) hv1) rfl
  refine n_call (n_q md_91 rfl) (As := [.ref 0, .int p1]) (rest := []) rfl rfl (Nat.le_of_ble_eq_true rfl) rfl (g_recv (b := 0) rfl t_0 rfl) (C117 (by omega) hv1) ?_
  refine g_go 2 md_91 (i1 := 5) rfl ?_
  obtain ⟨v3, hv3, H⟩ := g_bind H
  refine n_callv (n_q md_91 rfl) (As := [.int p2, .int 7]) (rest := []) rfl rfl (Nat.le_of_ble_eq_true rfl) rfl rfl (C118 (by omega) hv3) ?_
  rcases g_tbp H with ⟨v4, s5, hv4, H⟩ | ⟨v4, s5, hv4, H⟩
  rotate_left
  · cases H
    refine n_callx (z := .inl none) (n_q md_91 rfl) (As := [.int v3]) (rest := []) rfl rfl (Nat.le_of_ble_eq_true rfl) rfl rfl (C116 (by omega) hv4) rfl
  refine n_call (n_q md_91 rfl) (As := [.int v3]) (rest := []) rfl rfl (Nat.le_of_ble_eq_true rfl) rfl rfl (C116 (by omega) hv4) ?_
  refine g_go 1 md_91 (i1 := 8) rfl ?_
  refine g_getr 22 (n_q md_91 rfl) t_0 rfl ?_
  obtain ⟨v6, hv6, H⟩ := g_bind H
  refine n_callv (n_q md_91 rfl) (As := [.ref 22]) (rest := []) rfl rfl (Nat.le_of_ble_eq_true rfl) rfl (g_recv (b := 0) rfl t_22 rfl) (C2 t_22 (by omega) hv6) ?_
  refine g_go 3 md_91 (i1 := 13) (ls1 := [some (.ref 0), some (.int p1), some (.int p2), some (.int v6)]) rfl ?_
  by_cases h7 : p1 < 1
  · rw [if_pos h7] at H
    refine n_cmpT (n_q md_91 rfl) (decide_eq_true h7) ?_
    refine g_go 1 md_91 (i1 := 18) rfl ?_
    cases H
    exact n_iret (n_q md_91 rfl) (Or.inl rfl)
  · rw [if_neg h7] at H
    refine n_cmpF (n_q md_91 rfl) (fun e1 => h7 (of_decide_eq_true e1)) ?_
    refine g_go 2 md_91 (i1 := 16) rfl ?_
    by_cases h8 : v6 < p1
    · rw [if_pos h8] at H
      refine n_cmpF (n_q md_91 rfl) (fun e1 => absurd (of_decide_eq_true e1) (Int32.not_le.mpr h8)) ?_
      refine g_go 1 md_91 (i1 := 18) rfl ?_
      cases H
      exact n_iret (n_q md_91 rfl) (Or.inl rfl)
    · rw [if_neg h8] at H
      refine n_cmpT (n_q md_91 rfl) (decide_eq_true (Int32.not_lt.mp h8)) ?_
      refine g_go 1 md_91 (i1 := 20) rfl ?_
      refine g_getr 22 (n_q md_91 rfl) t_0 rfl ?_
      refine g_go 3 md_91 (i1 := 24) rfl ?_
      obtain ⟨v9, hv9, H⟩ := g_bind H
      refine n_callv (n_q md_91 rfl) (As := [.ref 0]) (rest := [.int v6, .int p1, .ref 22]) rfl rfl (Nat.le_of_ble_eq_true rfl) rfl (g_recv (b := 0) rfl t_0 rfl) (C120 (by omega) hv9) ?_
      obtain ⟨h10, H⟩ := g_gd H
      refine g_go 1 md_91 (i1 := 26) rfl ?_
      refine g_getr 21 (n_q md_91 rfl) t_0 rfl ?_
      obtain ⟨s12, hs12, H⟩ := g_bind H
      refine n_call (n_q md_91 rfl) (As := [.ref 22, .int p1, .int v6, .ref v9, .ref 21]) (rest := []) rfl rfl (Nat.le_of_ble_eq_true rfl) rfl (g_recv (b := 0) rfl t_22 rfl) (C4 t_22 h10 t_21 (by omega) hs12) ?_
      refine g_go 1 md_91 (i1 := 29) rfl ?_
      refine g_getr 21 (n_q md_91 rfl) t_0 rfl ?_
      refine g_go 1 md_91 (i1 := 31) rfl ?_
      obtain ⟨h13, H⟩ := g_gd H
      refine g_iald (n_q md_91 rfl) t_21 h13 ?_
      cases H
      exact n_iret (n_q md_91 rfl) (Or.inl rfl)

theorem md_92 : m_md 92 = m_X7_claim := rfl
noncomputable def f92 (s : g_S) (p1 : Int32) : Option ((Int32 ⊕ Nat) × g_S) := (g_tb (f117 s p1) fun _ s2 => (f120 s2).bind fun v3 => if g_lay v3 = o_4 v3 then (f10 s2 22 v3).bind fun s6 => if m_in p1 13 = true then some ((.inl (s6 78 p1.toNatClampNeg), s6)) else none else none)
theorem C92 {d ex : Nat} {s : g_S} {p1 : Int32}  {z : (Int32 ⊕ Nat) × g_S} (hd : 17 < d) (H : f92 s p1 = some z) : n_C X d 92 [.ref 0, .int p1] (g_M s ex) (g_rTI z ex) := by
  obtain ⟨d, rfl⟩ : ∃ d1, d = d1 + 1 := ⟨d - 1, by omega⟩
  replace hd := Nat.le_of_lt_succ hd
  refine ⟨Nat.le_of_ble_eq_true rfl, ?_⟩
  rw [md_92]
  show n_R X (d + 1) 92 0 [some (.ref 0), some (.int p1)] [] (g_M s ex) _
  unfold f92 at H
  refine g_go 2 md_92 (i1 := 2) rfl ?_
  rcases g_tbp H with ⟨v1, s2, hv1, H⟩ | ⟨v1, s2, hv1, H⟩
  rotate_left
  · cases H
    refine n_callx (z := .inl none) (n_q md_92 rfl) (As := [.ref 0, .int p1]) (rest := []) rfl rfl (Nat.le_of_ble_eq_true rfl) rfl (g_recv (b := 0) rfl t_0 rfl) (C117 (by omega) hv1) rfl
  refine n_call (n_q md_92 rfl) (As := [.ref 0, .int p1]) (rest := []) rfl rfl (Nat.le_of_ble_eq_true rfl) rfl (g_recv (b := 0) rfl t_0 rfl) (C117 (by omega) hv1) ?_
  refine g_go 1 md_92 (i1 := 4) rfl ?_
  refine g_getr 77 (n_q md_92 rfl) t_0 rfl ?_
  refine g_go 1 md_92 (i1 := 6) rfl ?_
  refine g_getr 22 (n_q md_92 rfl) t_0 rfl ?_
  refine g_go 1 md_92 (i1 := 8) rfl ?_
  obtain ⟨v3, hv3, H⟩ := g_bind H
  refine n_callv (n_q md_92 rfl) (As := [.ref 0]) (rest := [.ref 22, .ref 77]) rfl rfl (Nat.le_of_ble_eq_true rfl) rfl (g_recv (b := 0) rfl t_0 rfl) (C120 (by omega) hv3) ?_
  obtain ⟨h4, H⟩ := g_gd H
  obtain ⟨s6, hs6, H⟩ := g_bind H
  refine n_call (n_q md_92 rfl) (As := [.ref 77, .ref 22, .ref v3]) (rest := []) rfl rfl (Nat.le_of_ble_eq_true rfl) rfl (g_recv (b := 0) rfl t_77 rfl) (C10 t_22 h4 (by omega) hs6) ?_
  refine g_go 1 md_92 (i1 := 11) rfl ?_
  refine g_getr 77 (n_q md_92 rfl) t_0 rfl ?_
  refine g_getr 78 (n_q md_92 rfl) t_77 rfl ?_
  refine g_go 1 md_92 (i1 := 14) rfl ?_
  obtain ⟨h7, H⟩ := g_gd H
  refine g_iald (n_q md_92 rfl) t_78 h7 ?_
  cases H
  exact n_iret (n_q md_92 rfl) (Or.inl rfl)

theorem md_93 : m_md 93 = m_X7_whom := rfl
noncomputable def f93 (s : g_S) (p1 : Int32) : Option ((Int32 ⊕ Nat) × g_S) := (g_tb (f117 s p1) fun _ s2 => (f120 s2).bind fun v3 => if g_lay v3 = o_4 v3 then (f10 s2 22 v3).bind fun s6 => if m_in p1 13 = true then some ((.inl (s6 79 p1.toNatClampNeg), s6)) else none else none)
theorem C93 {d ex : Nat} {s : g_S} {p1 : Int32}  {z : (Int32 ⊕ Nat) × g_S} (hd : 17 < d) (H : f93 s p1 = some z) : n_C X d 93 [.ref 0, .int p1] (g_M s ex) (g_rTI z ex) := by
  obtain ⟨d, rfl⟩ : ∃ d1, d = d1 + 1 := ⟨d - 1, by omega⟩
  replace hd := Nat.le_of_lt_succ hd
  refine ⟨Nat.le_of_ble_eq_true rfl, ?_⟩
  rw [md_93]
  show n_R X (d + 1) 93 0 [some (.ref 0), some (.int p1)] [] (g_M s ex) _
  unfold f93 at H
  refine g_go 2 md_93 (i1 := 2) rfl ?_
  rcases g_tbp H with ⟨v1, s2, hv1, H⟩ | ⟨v1, s2, hv1, H⟩
  rotate_left
  · cases H
    refine n_callx (z := .inl none) (n_q md_93 rfl) (As := [.ref 0, .int p1]) (rest := []) rfl rfl (Nat.le_of_ble_eq_true rfl) rfl (g_recv (b := 0) rfl t_0 rfl) (C117 (by omega) hv1) rfl
  refine n_call (n_q md_93 rfl) (As := [.ref 0, .int p1]) (rest := []) rfl rfl (Nat.le_of_ble_eq_true rfl) rfl (g_recv (b := 0) rfl t_0 rfl) (C117 (by omega) hv1) ?_
  refine g_go 1 md_93 (i1 := 4) rfl ?_
  refine g_getr 77 (n_q md_93 rfl) t_0 rfl ?_
  refine g_go 1 md_93 (i1 := 6) rfl ?_
  refine g_getr 22 (n_q md_93 rfl) t_0 rfl ?_
  refine g_go 1 md_93 (i1 := 8) rfl ?_
  obtain ⟨v3, hv3, H⟩ := g_bind H
  refine n_callv (n_q md_93 rfl) (As := [.ref 0]) (rest := [.ref 22, .ref 77]) rfl rfl (Nat.le_of_ble_eq_true rfl) rfl (g_recv (b := 0) rfl t_0 rfl) (C120 (by omega) hv3) ?_
  obtain ⟨h4, H⟩ := g_gd H
  obtain ⟨s6, hs6, H⟩ := g_bind H
  refine n_call (n_q md_93 rfl) (As := [.ref 77, .ref 22, .ref v3]) (rest := []) rfl rfl (Nat.le_of_ble_eq_true rfl) rfl (g_recv (b := 0) rfl t_77 rfl) (C10 t_22 h4 (by omega) hs6) ?_
  refine g_go 1 md_93 (i1 := 11) rfl ?_
  refine g_getr 77 (n_q md_93 rfl) t_0 rfl ?_
  refine g_getr 79 (n_q md_93 rfl) t_77 rfl ?_
  refine g_go 1 md_93 (i1 := 14) rfl ?_
  obtain ⟨h7, H⟩ := g_gd H
  refine g_iald (n_q md_93 rfl) t_79 h7 ?_
  cases H
  exact n_iret (n_q md_93 rfl) (Or.inl rfl)

theorem md_94 : m_md 94 = m_X7_pays := rfl
noncomputable def f94 (s : g_S) (p1 : Int32) : Option ((Int32 ⊕ Nat) × g_S) := (g_tb (f117 s p1) fun _ s2 => (f120 s2).bind fun v3 => if g_lay v3 = o_4 v3 then (f10 s2 22 v3).bind fun s6 => if m_in p1 13 = true then some ((.inl (s6 80 p1.toNatClampNeg), s6)) else none else none)
theorem C94 {d ex : Nat} {s : g_S} {p1 : Int32}  {z : (Int32 ⊕ Nat) × g_S} (hd : 17 < d) (H : f94 s p1 = some z) : n_C X d 94 [.ref 0, .int p1] (g_M s ex) (g_rTI z ex) := by
  obtain ⟨d, rfl⟩ : ∃ d1, d = d1 + 1 := ⟨d - 1, by omega⟩
  replace hd := Nat.le_of_lt_succ hd
  refine ⟨Nat.le_of_ble_eq_true rfl, ?_⟩
  rw [md_94]
  show n_R X (d + 1) 94 0 [some (.ref 0), some (.int p1)] [] (g_M s ex) _
  unfold f94 at H
  refine g_go 2 md_94 (i1 := 2) rfl ?_
  rcases g_tbp H with ⟨v1, s2, hv1, H⟩ | ⟨v1, s2, hv1, H⟩
  rotate_left
  · cases H
    refine n_callx (z := .inl none) (n_q md_94 rfl) (As := [.ref 0, .int p1]) (rest := []) rfl rfl (Nat.le_of_ble_eq_true rfl) rfl (g_recv (b := 0) rfl t_0 rfl) (C117 (by omega) hv1) rfl
  refine n_call (n_q md_94 rfl) (As := [.ref 0, .int p1]) (rest := []) rfl rfl (Nat.le_of_ble_eq_true rfl) rfl (g_recv (b := 0) rfl t_0 rfl) (C117 (by omega) hv1) ?_
  refine g_go 1 md_94 (i1 := 4) rfl ?_
  refine g_getr 77 (n_q md_94 rfl) t_0 rfl ?_
  refine g_go 1 md_94 (i1 := 6) rfl ?_
  refine g_getr 22 (n_q md_94 rfl) t_0 rfl ?_
  refine g_go 1 md_94 (i1 := 8) rfl ?_
  obtain ⟨v3, hv3, H⟩ := g_bind H
  refine n_callv (n_q md_94 rfl) (As := [.ref 0]) (rest := [.ref 22, .ref 77]) rfl rfl (Nat.le_of_ble_eq_true rfl) rfl (g_recv (b := 0) rfl t_0 rfl) (C120 (by omega) hv3) ?_
  obtain ⟨h4, H⟩ := g_gd H
  obtain ⟨s6, hs6, H⟩ := g_bind H
  refine n_call (n_q md_94 rfl) (As := [.ref 77, .ref 22, .ref v3]) (rest := []) rfl rfl (Nat.le_of_ble_eq_true rfl) rfl (g_recv (b := 0) rfl t_77 rfl) (C10 t_22 h4 (by omega) hs6) ?_
  refine g_go 1 md_94 (i1 := 11) rfl ?_
  refine g_getr 77 (n_q md_94 rfl) t_0 rfl ?_
  refine g_getr 80 (n_q md_94 rfl) t_77 rfl ?_
  refine g_go 1 md_94 (i1 := 14) rfl ?_
  obtain ⟨h7, H⟩ := g_gd H
  refine g_iald (n_q md_94 rfl) t_80 h7 ?_
  cases H
  exact n_iret (n_q md_94 rfl) (Or.inl rfl)

theorem md_95 : m_md 95 = m_X7_bears := rfl
noncomputable def f95 (s : g_S) (p1 : Int32) : Option ((Int32 ⊕ Nat) × g_S) := (g_tb (f117 s p1) fun _ s2 => (f120 s2).bind fun v3 => if g_lay v3 = o_4 v3 then (f10 s2 22 v3).bind fun s6 => if m_in p1 13 = true then some ((.inl (s6 81 p1.toNatClampNeg), s6)) else none else none)
theorem C95 {d ex : Nat} {s : g_S} {p1 : Int32}  {z : (Int32 ⊕ Nat) × g_S} (hd : 17 < d) (H : f95 s p1 = some z) : n_C X d 95 [.ref 0, .int p1] (g_M s ex) (g_rTI z ex) := by
  obtain ⟨d, rfl⟩ : ∃ d1, d = d1 + 1 := ⟨d - 1, by omega⟩
  replace hd := Nat.le_of_lt_succ hd
  refine ⟨Nat.le_of_ble_eq_true rfl, ?_⟩
  rw [md_95]
  show n_R X (d + 1) 95 0 [some (.ref 0), some (.int p1)] [] (g_M s ex) _
  unfold f95 at H
  refine g_go 2 md_95 (i1 := 2) rfl ?_
  rcases g_tbp H with ⟨v1, s2, hv1, H⟩ | ⟨v1, s2, hv1, H⟩
  rotate_left
  · cases H
    refine n_callx (z := .inl none) (n_q md_95 rfl) (As := [.ref 0, .int p1]) (rest := []) rfl rfl (Nat.le_of_ble_eq_true rfl) rfl (g_recv (b := 0) rfl t_0 rfl) (C117 (by omega) hv1) rfl
  refine n_call (n_q md_95 rfl) (As := [.ref 0, .int p1]) (rest := []) rfl rfl (Nat.le_of_ble_eq_true rfl) rfl (g_recv (b := 0) rfl t_0 rfl) (C117 (by omega) hv1) ?_
  refine g_go 1 md_95 (i1 := 4) rfl ?_
  refine g_getr 77 (n_q md_95 rfl) t_0 rfl ?_
  refine g_go 1 md_95 (i1 := 6) rfl ?_
  refine g_getr 22 (n_q md_95 rfl) t_0 rfl ?_
  refine g_go 1 md_95 (i1 := 8) rfl ?_
  obtain ⟨v3, hv3, H⟩ := g_bind H
  refine n_callv (n_q md_95 rfl) (As := [.ref 0]) (rest := [.ref 22, .ref 77]) rfl rfl (Nat.le_of_ble_eq_true rfl) rfl (g_recv (b := 0) rfl t_0 rfl) (C120 (by omega) hv3) ?_
  obtain ⟨h4, H⟩ := g_gd H
  obtain ⟨s6, hs6, H⟩ := g_bind H
  refine n_call (n_q md_95 rfl) (As := [.ref 77, .ref 22, .ref v3]) (rest := []) rfl rfl (Nat.le_of_ble_eq_true rfl) rfl (g_recv (b := 0) rfl t_77 rfl) (C10 t_22 h4 (by omega) hs6) ?_
  refine g_go 1 md_95 (i1 := 11) rfl ?_
  refine g_getr 77 (n_q md_95 rfl) t_0 rfl ?_
  refine g_getr 81 (n_q md_95 rfl) t_77 rfl ?_
  refine g_go 1 md_95 (i1 := 14) rfl ?_
  obtain ⟨h7, H⟩ := g_gd H
  refine g_iald (n_q md_95 rfl) t_81 h7 ?_
  cases H
  exact n_iret (n_q md_95 rfl) (Or.inl rfl)

theorem md_96 : m_md 96 = m_X7_must := rfl
noncomputable def f96 (s : g_S) (p1 : Int32) : Option ((Int32 ⊕ Nat) × g_S) := (g_tb (f117 s p1) fun _ s2 => (f120 s2).bind fun v3 => if g_lay v3 = o_4 v3 then (f10 s2 22 v3).bind fun s6 => if m_in p1 13 = true then if m_isb (s6 82 p1.toNatClampNeg) = true then some ((.inl (s6 82 p1.toNatClampNeg), s6)) else none else none else none)
theorem C96 {d ex : Nat} {s : g_S} {p1 : Int32}  {z : (Int32 ⊕ Nat) × g_S} (hd : 17 < d) (H : f96 s p1 = some z) : n_C X d 96 [.ref 0, .int p1] (g_M s ex) (g_rTI z ex) := by
  obtain ⟨d, rfl⟩ : ∃ d1, d = d1 + 1 := ⟨d - 1, by omega⟩
  replace hd := Nat.le_of_lt_succ hd
  refine ⟨Nat.le_of_ble_eq_true rfl, ?_⟩
  rw [md_96]
  show n_R X (d + 1) 96 0 [some (.ref 0), some (.int p1)] [] (g_M s ex) _
  unfold f96 at H
  refine g_go 2 md_96 (i1 := 2) rfl ?_
  rcases g_tbp H with ⟨v1, s2, hv1, H⟩ | ⟨v1, s2, hv1, H⟩
  rotate_left
  · cases H
    refine n_callx (z := .inl none) (n_q md_96 rfl) (As := [.ref 0, .int p1]) (rest := []) rfl rfl (Nat.le_of_ble_eq_true rfl) rfl (g_recv (b := 0) rfl t_0 rfl) (C117 (by omega) hv1) rfl
  refine n_call (n_q md_96 rfl) (As := [.ref 0, .int p1]) (rest := []) rfl rfl (Nat.le_of_ble_eq_true rfl) rfl (g_recv (b := 0) rfl t_0 rfl) (C117 (by omega) hv1) ?_
  refine g_go 1 md_96 (i1 := 4) rfl ?_
  refine g_getr 77 (n_q md_96 rfl) t_0 rfl ?_
  refine g_go 1 md_96 (i1 := 6) rfl ?_
  refine g_getr 22 (n_q md_96 rfl) t_0 rfl ?_
  refine g_go 1 md_96 (i1 := 8) rfl ?_
  obtain ⟨v3, hv3, H⟩ := g_bind H
  refine n_callv (n_q md_96 rfl) (As := [.ref 0]) (rest := [.ref 22, .ref 77]) rfl rfl (Nat.le_of_ble_eq_true rfl) rfl (g_recv (b := 0) rfl t_0 rfl) (C120 (by omega) hv3) ?_
  obtain ⟨h4, H⟩ := g_gd H
  obtain ⟨s6, hs6, H⟩ := g_bind H
  refine n_call (n_q md_96 rfl) (As := [.ref 77, .ref 22, .ref v3]) (rest := []) rfl rfl (Nat.le_of_ble_eq_true rfl) rfl (g_recv (b := 0) rfl t_77 rfl) (C10 t_22 h4 (by omega) hs6) ?_
  refine g_go 1 md_96 (i1 := 11) rfl ?_
  refine g_getr 77 (n_q md_96 rfl) t_0 rfl ?_
  refine g_getr 82 (n_q md_96 rfl) t_77 rfl ?_
  refine g_go 1 md_96 (i1 := 14) rfl ?_
  obtain ⟨h7, H⟩ := g_gd H
  refine g_bald (n_q md_96 rfl) t_82 h7 ?_
  obtain ⟨hb8, H⟩ := g_gd H
  cases H
  exact n_iret (n_q md_96 rfl) (Or.inr hb8)

theorem md_97 : m_md 97 = m_X7_frees := rfl
noncomputable def f97 (s : g_S) (p1 : Int32) : Option ((Int32 ⊕ Nat) × g_S) := (g_tb (f117 s p1) fun _ s2 => (f120 s2).bind fun v3 => if g_lay v3 = o_4 v3 then (f10 s2 22 v3).bind fun s6 => if m_in p1 13 = true then (f1 s6 49 22).bind fun s9 => (f27 s9 (55 + p1.toNatClampNeg) 3 1).bind fun s11 => (f120 s11).bind fun v12 => if g_lay v12 = o_4 v12 then (f10 s11 49 v12).bind fun s15 => some ((.inl ((s6 81 p1.toNatClampNeg) - (s15 81 p1.toNatClampNeg)), s15)) else none else none else none)
theorem C97 {d ex : Nat} {s : g_S} {p1 : Int32}  {z : (Int32 ⊕ Nat) × g_S} (hd : 17 < d) (H : f97 s p1 = some z) : n_C X d 97 [.ref 0, .int p1] (g_M s ex) (g_rTI z ex) := by
  obtain ⟨d, rfl⟩ : ∃ d1, d = d1 + 1 := ⟨d - 1, by omega⟩
  replace hd := Nat.le_of_lt_succ hd
  refine ⟨Nat.le_of_ble_eq_true rfl, ?_⟩
  rw [md_97]
  show n_R X (d + 1) 97 0 [some (.ref 0), some (.int p1), none] [] (g_M s ex) _
  unfold f97 at H
  refine g_go 2 md_97 (i1 := 2) rfl ?_
  rcases g_tbp H with ⟨v1, s2, hv1, H⟩ | ⟨v1, s2, hv1, H⟩
  rotate_left
  · cases H
    refine n_callx (z := .inl none) (n_q md_97 rfl) (As := [.ref 0, .int p1]) (rest := []) rfl rfl (Nat.le_of_ble_eq_true rfl) rfl (g_recv (b := 0) rfl t_0 rfl) (C117 (by omega) hv1) rfl
  refine n_call (n_q md_97 rfl) (As := [.ref 0, .int p1]) (rest := []) rfl rfl (Nat.le_of_ble_eq_true rfl) rfl (g_recv (b := 0) rfl t_0 rfl) (C117 (by omega) hv1) ?_
  refine g_go 1 md_97 (i1 := 4) rfl ?_
  refine g_getr 77 (n_q md_97 rfl) t_0 rfl ?_
  refine g_go 1 md_97 (i1 := 6) rfl ?_
  refine g_getr 22 (n_q md_97 rfl) t_0 rfl ?_
  refine g_go 1 md_97 (i1 := 8) rfl ?_
  obtain ⟨v3, hv3, H⟩ := g_bind H
  refine n_callv (n_q md_97 rfl) (As := [.ref 0]) (rest := [.ref 22, .ref 77]) rfl rfl (Nat.le_of_ble_eq_true rfl) rfl (g_recv (b := 0) rfl t_0 rfl) (C120 (by omega) hv3) ?_
  obtain ⟨h4, H⟩ := g_gd H
  obtain ⟨s6, hs6, H⟩ := g_bind H
  refine n_call (n_q md_97 rfl) (As := [.ref 77, .ref 22, .ref v3]) (rest := []) rfl rfl (Nat.le_of_ble_eq_true rfl) rfl (g_recv (b := 0) rfl t_77 rfl) (C10 t_22 h4 (by omega) hs6) ?_
  refine g_go 1 md_97 (i1 := 11) rfl ?_
  refine g_getr 77 (n_q md_97 rfl) t_0 rfl ?_
  refine g_getr 81 (n_q md_97 rfl) t_77 rfl ?_
  refine g_go 1 md_97 (i1 := 14) rfl ?_
  obtain ⟨h7, H⟩ := g_gd H
  refine g_iald (n_q md_97 rfl) t_81 h7 ?_
  refine g_go 2 md_97 (i1 := 17) (ls1 := [some (.ref 0), some (.int p1), some (.int (s6 81 p1.toNatClampNeg))]) rfl ?_
  refine g_getr 49 (n_q md_97 rfl) t_0 rfl ?_
  refine g_go 1 md_97 (i1 := 19) rfl ?_
  refine g_getr 22 (n_q md_97 rfl) t_0 rfl ?_
  obtain ⟨s9, hs9, H⟩ := g_bind H
  refine n_call (n_q md_97 rfl) (As := [.ref 49, .ref 22]) (rest := []) rfl rfl (Nat.le_of_ble_eq_true rfl) rfl (g_recv (b := 0) rfl t_49 rfl) (C1 t_49 t_22 (by omega) hs9) ?_
  refine g_go 1 md_97 (i1 := 22) rfl ?_
  refine g_getr 49 (n_q md_97 rfl) t_0 rfl ?_
  refine g_getr 50 (n_q md_97 rfl) t_49 rfl ?_
  refine g_go 1 md_97 (i1 := 25) rfl ?_
  refine g_aald (n_q md_97 rfl) ta_50 (by decide) h7 (g_range (g_inlt h7)) ?_
  refine g_go 2 md_97 (i1 := 28) rfl ?_
  obtain ⟨s11, hs11, H⟩ := g_bind H
  refine n_call (n_q md_97 rfl) (As := [.ref (55 + p1.toNatClampNeg), .int 3, .int 1]) (rest := []) rfl rfl (Nat.le_of_ble_eq_true rfl) rfl (g_recv (b := 0) rfl (te_6 t_49 (g_inlt h7)) rfl) (C27 (te_6 t_49 (g_inlt h7)) (by omega) hs11) ?_
  refine g_go 1 md_97 (i1 := 30) rfl ?_
  refine g_getr 77 (n_q md_97 rfl) t_0 rfl ?_
  refine g_go 1 md_97 (i1 := 32) rfl ?_
  refine g_getr 49 (n_q md_97 rfl) t_0 rfl ?_
  refine g_go 1 md_97 (i1 := 34) rfl ?_
  obtain ⟨v12, hv12, H⟩ := g_bind H
  refine n_callv (n_q md_97 rfl) (As := [.ref 0]) (rest := [.ref 49, .ref 77]) rfl rfl (Nat.le_of_ble_eq_true rfl) rfl (g_recv (b := 0) rfl t_0 rfl) (C120 (by omega) hv12) ?_
  obtain ⟨h13, H⟩ := g_gd H
  obtain ⟨s15, hs15, H⟩ := g_bind H
  refine n_call (n_q md_97 rfl) (As := [.ref 77, .ref 49, .ref v12]) (rest := []) rfl rfl (Nat.le_of_ble_eq_true rfl) rfl (g_recv (b := 0) rfl t_77 rfl) (C10 t_49 h13 (by omega) hs15) ?_
  refine g_go 2 md_97 (i1 := 38) rfl ?_
  refine g_getr 77 (n_q md_97 rfl) t_0 rfl ?_
  refine g_getr 81 (n_q md_97 rfl) t_77 rfl ?_
  refine g_go 1 md_97 (i1 := 41) rfl ?_
  refine g_iald (n_q md_97 rfl) t_81 h7 ?_
  refine g_go 1 md_97 (i1 := 43) rfl ?_
  cases H
  exact n_iret (n_q md_97 rfl) (Or.inl rfl)

theorem md_98 : m_md 98 = m_X7_question := rfl
noncomputable def f98_26 (s : g_S) (p1 : Int32) (p2 : Int32) (p3 : Int32) : Option ((Int32 ⊕ Nat) × g_S) := (g_bd (f5 s 22 p1 p2 p3) fun v1 s2 => some ((.inl v1, s2)))
theorem P98_26 {d ex : Nat} {s : g_S} {p1 : Int32} {p2 : Int32} {p3 : Int32}   {z : ((Int32 ⊕ Nat) × g_S)} (H : f98_26 s p1 p2 p3 = some z) (hd : 14 ≤ d)  : n_R X (d + 1) 98 26 [some (.ref 0), some (.int p1), some (.int p2), some (.int p3)] [] (g_M s ex) (g_rTI z ex) := by
  unfold f98_26 at H
  refine g_go 1 md_98 (i1 := 27) rfl ?_
  refine g_getr 22 (n_q md_98 rfl) t_0 rfl ?_
  refine g_go 3 md_98 (i1 := 31) rfl ?_
  obtain ⟨v1, s2, hv1, H⟩ := g_bdp H
  refine n_callv (n_q md_98 rfl) (As := [.ref 22, .int p1, .int p2, .int p3]) (rest := []) rfl rfl (Nat.le_of_ble_eq_true rfl) rfl (g_recv (b := 0) rfl t_22 rfl) (C5 t_22 (by omega) hv1) ?_
  cases H
  exact n_iret (n_q md_98 rfl) (Or.inl rfl)
noncomputable def f98_25 (s : g_S) (p1 : Int32) (p2 : Int32) (p3 : Int32) (y0 : Int32) : Option ((Int32 ⊕ Nat) × g_S) := (g_tb (f116 s y0) fun _ s2 => f98_26 s2 p1 p2 p3)
theorem P98_25 {d ex : Nat} {s : g_S} {p1 : Int32} {p2 : Int32} {p3 : Int32} {y0 : Int32}   {z : ((Int32 ⊕ Nat) × g_S)} (H : f98_25 s p1 p2 p3 y0 = some z) (hd : 14 ≤ d)  : n_R X (d + 1) 98 25 [some (.ref 0), some (.int p1), some (.int p2), some (.int p3)] [.int y0] (g_M s ex) (g_rTI z ex) := by
  unfold f98_25 at H
  rcases g_tbp H with ⟨v1, s2, hv1, H⟩ | ⟨v1, s2, hv1, H⟩
  rotate_left
  · cases H
    refine n_callx (z := .inl none) (n_q md_98 rfl) (As := [.int y0]) (rest := []) rfl rfl (Nat.le_of_ble_eq_true rfl) rfl rfl (C116 (by omega) hv1) rfl
  refine n_call (n_q md_98 rfl) (As := [.int y0]) (rest := []) rfl rfl (Nat.le_of_ble_eq_true rfl) rfl rfl (C116 (by omega) hv1) ?_
  exact P98_26 H hd
noncomputable def f98_24 (s : g_S) (p1 : Int32) (p2 : Int32) (p3 : Int32) : Option ((Int32 ⊕ Nat) × g_S) := (f98_25 s p1 p2 p3 0)
theorem P98_24 {d ex : Nat} {s : g_S} {p1 : Int32} {p2 : Int32} {p3 : Int32}   {z : ((Int32 ⊕ Nat) × g_S)} (H : f98_24 s p1 p2 p3 = some z) (hd : 14 ≤ d)  : n_R X (d + 1) 98 24 [some (.ref 0), some (.int p1), some (.int p2), some (.int p3)] [] (g_M s ex) (g_rTI z ex) := by
  unfold f98_24 at H
  refine g_go 1 md_98 (i1 := 25) rfl ?_
  exact P98_25 H hd
noncomputable def f98_22 (s : g_S) (p1 : Int32) (p2 : Int32) (p3 : Int32) : Option ((Int32 ⊕ Nat) × g_S) := (f98_25 s p1 p2 p3 1)
theorem P98_22 {d ex : Nat} {s : g_S} {p1 : Int32} {p2 : Int32} {p3 : Int32}   {z : ((Int32 ⊕ Nat) × g_S)} (H : f98_22 s p1 p2 p3 = some z) (hd : 14 ≤ d)  : n_R X (d + 1) 98 22 [some (.ref 0), some (.int p1), some (.int p2), some (.int p3)] [] (g_M s ex) (g_rTI z ex) := by
  unfold f98_22 at H
  refine g_go 2 md_98 (i1 := 25) rfl ?_
  exact P98_25 H hd
noncomputable def f98_15 (s : g_S) (p1 : Int32) (p2 : Int32) (p3 : Int32) : Option ((Int32 ⊕ Nat) × g_S) := (if p1 = 5 then ((f118 s p3 999).bind fun v2 => if v2 = 0 then (f98_24 s p1 p2 p3) else (f98_22 s p1 p2 p3)) else (f98_24 s p1 p2 p3))
theorem P98_15 {d ex : Nat} {s : g_S} {p1 : Int32} {p2 : Int32} {p3 : Int32}   {z : ((Int32 ⊕ Nat) × g_S)} (H : f98_15 s p1 p2 p3 = some z) (hd : 14 ≤ d)  : n_R X (d + 1) 98 15 [some (.ref 0), some (.int p1), some (.int p2), some (.int p3)] [] (g_M s ex) (g_rTI z ex) := by
  unfold f98_15 at H
  refine g_go 2 md_98 (i1 := 17) rfl ?_
  by_cases h1 : p1 = 5
  · rw [if_pos h1] at H
    refine n_cmpF (n_q md_98 rfl) (fun e1 => of_decide_eq_true e1 h1) ?_
    refine g_go 2 md_98 (i1 := 20) rfl ?_
    obtain ⟨v2, hv2, H⟩ := g_bind H
    refine n_callv (n_q md_98 rfl) (As := [.int p3, .int 999]) (rest := []) rfl rfl (Nat.le_of_ble_eq_true rfl) rfl rfl (C118 (by omega) hv2) ?_
    by_cases h3 : v2 = 0
    · rw [if_pos h3] at H
      refine n_ifT (n_q md_98 rfl) (decide_eq_true h3) ?_
      exact P98_24 H hd
    · rw [if_neg h3] at H
      refine n_ifF (n_q md_98 rfl) (fun e1 => h3 (of_decide_eq_true e1)) ?_
      exact P98_22 H hd
  · rw [if_neg h1] at H
    refine n_cmpT (n_q md_98 rfl) (decide_eq_true h1) ?_
    exact P98_24 H hd
noncomputable def f98 (s : g_S) (p1 : Int32) (p2 : Int32) (p3 : Int32) : Option ((Int32 ⊕ Nat) × g_S) := ((f118 s p1 3).bind fun v1 => if v1 = 0 then (if p1 = 4 then ((f118 s p3 5).bind fun v4 => if v4 = 0 then (f98_15 s p1 p2 p3) else (f98_22 s p1 p2 p3)) else (f98_15 s p1 p2 p3)) else (g_tb (f117 s p2) fun _ s4 => f98_26 s4 p1 p2 p3))
theorem C98 {d ex : Nat} {s : g_S} {p1 : Int32} {p2 : Int32} {p3 : Int32}  {z : (Int32 ⊕ Nat) × g_S} (hd : 14 < d) (H : f98 s p1 p2 p3 = some z) : n_C X d 98 [.ref 0, .int p1, .int p2, .int p3] (g_M s ex) (g_rTI z ex) := by
  obtain ⟨d, rfl⟩ : ∃ d1, d = d1 + 1 := ⟨d - 1, by omega⟩
  replace hd := Nat.le_of_lt_succ hd
  refine ⟨Nat.le_of_ble_eq_true rfl, ?_⟩
  rw [md_98]
  show n_R X (d + 1) 98 0 [some (.ref 0), some (.int p1), some (.int p2), some (.int p3)] [] (g_M s ex) _
  unfold f98 at H
  refine g_go 2 md_98 (i1 := 2) rfl ?_
  obtain ⟨v1, hv1, H⟩ := g_bind H
  refine n_callv (n_q md_98 rfl) (As := [.int p1, .int 3]) (rest := []) rfl rfl (Nat.le_of_ble_eq_true rfl) rfl rfl (C118 (by omega) hv1) ?_
  by_cases h2 : v1 = 0
  · rw [if_pos h2] at H
    refine n_ifT (n_q md_98 rfl) (decide_eq_true h2) ?_
    refine g_go 2 md_98 (i1 := 10) rfl ?_
    by_cases h3 : p1 = 4
    · rw [if_pos h3] at H
      refine n_cmpF (n_q md_98 rfl) (fun e1 => of_decide_eq_true e1 h3) ?_
      refine g_go 2 md_98 (i1 := 13) rfl ?_
      obtain ⟨v4, hv4, H⟩ := g_bind H
      refine n_callv (n_q md_98 rfl) (As := [.int p3, .int 5]) (rest := []) rfl rfl (Nat.le_of_ble_eq_true rfl) rfl rfl (C118 (by omega) hv4) ?_
      by_cases h5 : v4 = 0
      · rw [if_pos h5] at H
        refine n_ifF (n_q md_98 rfl) (fun e1 => of_decide_eq_true e1 h5) ?_
        exact P98_15 H hd
      · rw [if_neg h5] at H
        refine n_ifT (n_q md_98 rfl) (decide_eq_true h5) ?_
        exact P98_22 H hd
    · rw [if_neg h3] at H
      refine n_cmpT (n_q md_98 rfl) (decide_eq_true h3) ?_
      exact P98_15 H hd
  · rw [if_neg h2] at H
    refine n_ifF (n_q md_98 rfl) (fun e1 => h2 (of_decide_eq_true e1)) ?_
    refine g_go 2 md_98 (i1 := 6) rfl ?_
    rcases g_tbp H with ⟨v3, s4, hv3, H⟩ | ⟨v3, s4, hv3, H⟩
    rotate_left
    · cases H
      refine n_callx (z := .inl none) (n_q md_98 rfl) (As := [.ref 0, .int p2]) (rest := []) rfl rfl (Nat.le_of_ble_eq_true rfl) rfl (g_recv (b := 0) rfl t_0 rfl) (C117 (by omega) hv3) rfl
    refine n_call (n_q md_98 rfl) (As := [.ref 0, .int p2]) (rest := []) rfl rfl (Nat.le_of_ble_eq_true rfl) rfl (g_recv (b := 0) rfl t_0 rfl) (C117 (by omega) hv3) ?_
    refine g_go 1 md_98 (i1 := 26) rfl ?_
    exact P98_26 H hd

theorem md_125 : m_md 125 = m_X7_allCases := rfl
noncomputable def f125 (s : g_S) : Option (Int32) := (some ((1 : Int32) <<< ((s 22 7) &&& 31)))
theorem C125 {d ex : Nat} {s : g_S}  {z : Int32} (hd : 12 < d) (H : f125 s = some z) : n_C X d 125 [.ref 0] (g_M s ex) (g_rPI s z ex) := by
  obtain ⟨d, rfl⟩ : ∃ d1, d = d1 + 1 := ⟨d - 1, by omega⟩
  replace hd := Nat.le_of_lt_succ hd
  refine ⟨Nat.le_of_ble_eq_true rfl, ?_⟩
  rw [md_125]
  show n_R X (d + 1) 125 0 [some (.ref 0)] [] (g_M s ex) _
  unfold f125 at H
  refine g_go 2 md_125 (i1 := 2) rfl ?_
  refine g_getr 22 (n_q md_125 rfl) t_0 rfl ?_
  refine g_getf (n_q md_125 rfl) t_22 rfl ?_
  refine g_go 1 md_125 (i1 := 5) rfl ?_
  cases H
  exact n_iret (n_q md_125 rfl) (Or.inl rfl)

theorem md_99 : m_md 99 = m_X7_inCase := rfl
noncomputable def f99 (s : g_S) (p1 : Int32) (p2 : Int32) : Option ((Int32 ⊕ Nat) × g_S) := (g_tb (f117 s p2) fun _ s2 => (f125 s2).bind fun v3 => (f118 s2 p1 (v3 - 1)).bind fun v4 => g_tb (f116 s2 v4) fun _ s6 => (f1 s6 49 22).bind fun s8 => (f7 s8 49 22 p1).bind fun s10 => (f120 s10).bind fun v11 => if g_lay v11 = o_4 v11 then (f10 s10 49 v11).bind fun s14 => if m_in p2 13 = true then some ((.inl (s14 81 p2.toNatClampNeg), s14)) else none else none)
theorem C99 {d ex : Nat} {s : g_S} {p1 : Int32} {p2 : Int32}  {z : (Int32 ⊕ Nat) × g_S} (hd : 17 < d) (H : f99 s p1 p2 = some z) : n_C X d 99 [.ref 0, .int p1, .int p2] (g_M s ex) (g_rTI z ex) := by
  obtain ⟨d, rfl⟩ : ∃ d1, d = d1 + 1 := ⟨d - 1, by omega⟩
  replace hd := Nat.le_of_lt_succ hd
  refine ⟨Nat.le_of_ble_eq_true rfl, ?_⟩
  rw [md_99]
  show n_R X (d + 1) 99 0 [some (.ref 0), some (.int p1), some (.int p2)] [] (g_M s ex) _
  unfold f99 at H
  refine g_go 2 md_99 (i1 := 2) rfl ?_
  rcases g_tbp H with ⟨v1, s2, hv1, H⟩ | ⟨v1, s2, hv1, H⟩
  rotate_left
  · cases H
    refine n_callx (z := .inl none) (n_q md_99 rfl) (As := [.ref 0, .int p2]) (rest := []) rfl rfl (Nat.le_of_ble_eq_true rfl) rfl (g_recv (b := 0) rfl t_0 rfl) (C117 (by omega) hv1) rfl
  refine n_call (n_q md_99 rfl) (As := [.ref 0, .int p2]) (rest := []) rfl rfl (Nat.le_of_ble_eq_true rfl) rfl (g_recv (b := 0) rfl t_0 rfl) (C117 (by omega) hv1) ?_
  refine g_go 2 md_99 (i1 := 5) rfl ?_
  obtain ⟨v3, hv3, H⟩ := g_bind H
  refine n_callv (n_q md_99 rfl) (As := [.ref 0]) (rest := [.int p1]) rfl rfl (Nat.le_of_ble_eq_true rfl) rfl (g_recv (b := 0) rfl t_0 rfl) (C125 (by omega) hv3) ?_
  refine g_go 2 md_99 (i1 := 8) rfl ?_
  obtain ⟨v4, hv4, H⟩ := g_bind H
  refine n_callv (n_q md_99 rfl) (As := [.int p1, .int (v3 - 1)]) (rest := []) rfl rfl (Nat.le_of_ble_eq_true rfl) rfl rfl (C118 (by omega) hv4) ?_
  rcases g_tbp H with ⟨v5, s6, hv5, H⟩ | ⟨v5, s6, hv5, H⟩
  rotate_left
  · cases H
    refine n_callx (z := .inl none) (n_q md_99 rfl) (As := [.int v4]) (rest := []) rfl rfl (Nat.le_of_ble_eq_true rfl) rfl rfl (C116 (by omega) hv5) rfl
  refine n_call (n_q md_99 rfl) (As := [.int v4]) (rest := []) rfl rfl (Nat.le_of_ble_eq_true rfl) rfl rfl (C116 (by omega) hv5) ?_
  refine g_go 1 md_99 (i1 := 11) rfl ?_
  refine g_getr 49 (n_q md_99 rfl) t_0 rfl ?_
  refine g_go 1 md_99 (i1 := 13) rfl ?_
  refine g_getr 22 (n_q md_99 rfl) t_0 rfl ?_
  obtain ⟨s8, hs8, H⟩ := g_bind H
  refine n_call (n_q md_99 rfl) (As := [.ref 49, .ref 22]) (rest := []) rfl rfl (Nat.le_of_ble_eq_true rfl) rfl (g_recv (b := 0) rfl t_49 rfl) (C1 t_49 t_22 (by omega) hs8) ?_
  refine g_go 1 md_99 (i1 := 16) rfl ?_
  refine g_getr 49 (n_q md_99 rfl) t_0 rfl ?_
  refine g_go 1 md_99 (i1 := 18) rfl ?_
  refine g_getr 22 (n_q md_99 rfl) t_0 rfl ?_
  refine g_go 1 md_99 (i1 := 20) rfl ?_
  obtain ⟨s10, hs10, H⟩ := g_bind H
  refine n_call (n_q md_99 rfl) (As := [.ref 49, .ref 22, .int p1]) (rest := []) rfl rfl (Nat.le_of_ble_eq_true rfl) rfl (g_recv (b := 0) rfl t_49 rfl) (C7 t_49 t_22 (by omega) hs10) ?_
  refine g_go 1 md_99 (i1 := 22) rfl ?_
  refine g_getr 77 (n_q md_99 rfl) t_0 rfl ?_
  refine g_go 1 md_99 (i1 := 24) rfl ?_
  refine g_getr 49 (n_q md_99 rfl) t_0 rfl ?_
  refine g_go 1 md_99 (i1 := 26) rfl ?_
  obtain ⟨v11, hv11, H⟩ := g_bind H
  refine n_callv (n_q md_99 rfl) (As := [.ref 0]) (rest := [.ref 49, .ref 77]) rfl rfl (Nat.le_of_ble_eq_true rfl) rfl (g_recv (b := 0) rfl t_0 rfl) (C120 (by omega) hv11) ?_
  obtain ⟨h12, H⟩ := g_gd H
  obtain ⟨s14, hs14, H⟩ := g_bind H
  refine n_call (n_q md_99 rfl) (As := [.ref 77, .ref 49, .ref v11]) (rest := []) rfl rfl (Nat.le_of_ble_eq_true rfl) rfl (g_recv (b := 0) rfl t_77 rfl) (C10 t_49 h12 (by omega) hs14) ?_
  refine g_go 1 md_99 (i1 := 29) rfl ?_
  refine g_getr 77 (n_q md_99 rfl) t_0 rfl ?_
  refine g_getr 81 (n_q md_99 rfl) t_77 rfl ?_
  refine g_go 1 md_99 (i1 := 32) rfl ?_
  obtain ⟨h15, H⟩ := g_gd H
  refine g_iald (n_q md_99 rfl) t_81 h15 ?_
  cases H
  exact n_iret (n_q md_99 rfl) (Or.inl rfl)

theorem md_126 : m_md 126 = m_X7_reckonCases := rfl
noncomputable def f126_7 (s : g_S) (x1 : Int32) : Option ((Int32 × g_S) ⊕ (g_S)) := ((f125 s).bind fun v1 => if x1 < v1 then ((f7 s 49 22 x1).bind fun s4 => (f120 s4).bind fun v5 => if g_lay v5 = o_4 v5 then (f10 s4 49 v5).bind fun s8 => if ¬ (0 : Int32) < 0 ∧ ¬ (x1 * 13 : Int32) < 0 ∧ ¬ (13 : Int32) < 0 ∧ 0 + 13 ≤ 13 ∧ (x1 * 13).toNatClampNeg + 13 ≤ 3328 then g_let (g_wa s8 85 (va_cpy (s8 81) (s8 85) 0 (x1 * 13).toNatClampNeg 13)) fun s10 => some (.inl (x1 + 1, s10)) else none else none) else (some (.inr (s))))
theorem P126_7 {d ex : Nat} {rr : m_R} {s : g_S} {x1 : Int32}   {z : ((Int32 × g_S) ⊕ (g_S))} (H : f126_7 s x1 = some z) (hd : 17 ≤ d) (K0 : ∀ S : Int32 × g_S, z = .inl S → n_R X (d + 1) 126 7 [some (.ref 0), some (.int S.1)] [] (g_M S.2 ex) rr) (Kr : ∀ q, z = .inr (q) → g_rSV q ex = rr) : n_R X (d + 1) 126 7 [some (.ref 0), some (.int x1)] [] (g_M s ex) rr := by
  unfold f126_7 at H
  refine g_go 2 md_126 (i1 := 9) rfl ?_
  obtain ⟨v1, hv1, H⟩ := g_bind H
  refine n_callv (n_q md_126 rfl) (As := [.ref 0]) (rest := [.int x1]) rfl rfl (Nat.le_of_ble_eq_true rfl) rfl (g_recv (b := 0) rfl t_0 rfl) (C125 (by omega) hv1) ?_
  by_cases h2 : x1 < v1
  · rw [if_pos h2] at H
    refine n_cmpF (n_q md_126 rfl) (fun e1 => absurd (of_decide_eq_true e1) (Int32.not_le.mpr h2)) ?_
    refine g_go 1 md_126 (i1 := 12) rfl ?_
    refine g_getr 49 (n_q md_126 rfl) t_0 rfl ?_
    refine g_go 1 md_126 (i1 := 14) rfl ?_
    refine g_getr 22 (n_q md_126 rfl) t_0 rfl ?_
    refine g_go 1 md_126 (i1 := 16) rfl ?_
    obtain ⟨s4, hs4, H⟩ := g_bind H
    refine n_call (n_q md_126 rfl) (As := [.ref 49, .ref 22, .int x1]) (rest := []) rfl rfl (Nat.le_of_ble_eq_true rfl) rfl (g_recv (b := 0) rfl t_49 rfl) (C7 t_49 t_22 (by omega) hs4) ?_
    refine g_go 1 md_126 (i1 := 18) rfl ?_
    refine g_getr 77 (n_q md_126 rfl) t_0 rfl ?_
    refine g_go 1 md_126 (i1 := 20) rfl ?_
    refine g_getr 49 (n_q md_126 rfl) t_0 rfl ?_
    refine g_go 1 md_126 (i1 := 22) rfl ?_
    obtain ⟨v5, hv5, H⟩ := g_bind H
    refine n_callv (n_q md_126 rfl) (As := [.ref 0]) (rest := [.ref 49, .ref 77]) rfl rfl (Nat.le_of_ble_eq_true rfl) rfl (g_recv (b := 0) rfl t_0 rfl) (C120 (by omega) hv5) ?_
    obtain ⟨h6, H⟩ := g_gd H
    obtain ⟨s8, hs8, H⟩ := g_bind H
    refine n_call (n_q md_126 rfl) (As := [.ref 77, .ref 49, .ref v5]) (rest := []) rfl rfl (Nat.le_of_ble_eq_true rfl) rfl (g_recv (b := 0) rfl t_77 rfl) (C10 t_49 h6 (by omega) hs8) ?_
    refine g_go 1 md_126 (i1 := 25) rfl ?_
    refine g_getr 77 (n_q md_126 rfl) t_0 rfl ?_
    refine g_getr 81 (n_q md_126 rfl) t_77 rfl ?_
    refine g_go 2 md_126 (i1 := 29) rfl ?_
    refine g_getr 85 (n_q md_126 rfl) t_0 rfl ?_
    refine g_go 4 md_126 (i1 := 34) rfl ?_
    obtain ⟨h9, H⟩ := g_gd H
    obtain ⟨s10, es10, H⟩ := g_letp H
    refine g_copy (n_q md_126 rfl) (by omega) t_81 t_85 (Nat.le_of_ble_eq_true rfl) h9.1 h9.2.1 h9.2.2.1 h9.2.2.2.1 h9.2.2.2.2 es10 ?_
    refine g_go 2 md_126 (i1 := 7) (ls1 := [some (.ref 0), some (.int (x1 + 1))]) rfl ?_
    cases H
    exact K0 (x1 + 1, s10) rfl
  · rw [if_neg h2] at H
    refine n_cmpT (n_q md_126 rfl) (decide_eq_true (Int32.not_lt.mp h2)) ?_
    cases H
    rw [← Kr _ rfl]
    exact n_end (n_q md_126 rfl) (fun _ => rfl)
noncomputable def f126_7L (s : g_S) (x1 : Int32) : Option (g_S) := g_run (fun S : Int32 × g_S => f126_7 S.2 S.1) (x1, s)
theorem f126_7L_eq (s : g_S) (x1 : Int32) : f126_7L s x1 = g_st (f126_7 s x1) (fun S => f126_7L S.2 S.1) := by
  unfold f126_7L
  exact g_run_eq _ _
theorem P126_7L {d ex : Nat} {s : g_S} {x1 : Int32}   {z : (g_S)} (H : f126_7L s x1 = some z) (hd : 17 ≤ d)  : n_R X (d + 1) 126 7 [some (.ref 0), some (.int x1)] [] (g_M s ex) (g_rSV z ex) := by
  unfold f126_7L at H
  refine g_rs (Q := fun S => n_R X (d + 1) 126 7 [some (.ref 0), some (.int S.1)] [] (g_M S.2 ex) (g_rSV z ex)) H ?_
  intro S w hb K0 KK
  refine P126_7 hb hd ?_ ?_
  · exact fun S1 e1 => K0 S1 e1
  · exact fun q e1 => by rw [KK q e1]
noncomputable def f126 (s : g_S) : Option (g_S) := ((f1 s 49 22).bind fun s2 => f126_7L s2 0)
theorem C126 {d ex : Nat} {s : g_S}  {z : g_S} (hd : 17 < d) (H : f126 s = some z) : n_C X d 126 [.ref 0] (g_M s ex) (g_rSV z ex) := by
  obtain ⟨d, rfl⟩ : ∃ d1, d = d1 + 1 := ⟨d - 1, by omega⟩
  replace hd := Nat.le_of_lt_succ hd
  refine ⟨Nat.le_of_ble_eq_true rfl, ?_⟩
  rw [md_126]
  show n_R X (d + 1) 126 0 [some (.ref 0), none] [] (g_M s ex) _
  unfold f126 at H
  refine g_go 1 md_126 (i1 := 1) rfl ?_
  refine g_getr 49 (n_q md_126 rfl) t_0 rfl ?_
  refine g_go 1 md_126 (i1 := 3) rfl ?_
  refine g_getr 22 (n_q md_126 rfl) t_0 rfl ?_
  obtain ⟨s2, hs2, H⟩ := g_bind H
  refine n_call (n_q md_126 rfl) (As := [.ref 49, .ref 22]) (rest := []) rfl rfl (Nat.le_of_ble_eq_true rfl) rfl (g_recv (b := 0) rfl t_49 rfl) (C1 t_49 t_22 (by omega) hs2) ?_
  refine g_go 2 md_126 (i1 := 7) (ls1 := [some (.ref 0), some (.int 0)]) rfl ?_
  exact P126_7L H hd

theorem md_127 : m_md 127 = m_X7_isBurdened := rfl
noncomputable def f127 (s : g_S) (p1 : Int32) (p2 : Int32) : Option (Int32) := (if m_in ((p2 * 13) + p1) 3328 = true then if 0 < (s 85 ((p2 * 13) + p1).toNatClampNeg) then (some 1) else (some 0) else none)
theorem C127 {d ex : Nat} {s : g_S} {p1 : Int32} {p2 : Int32}  {z : Int32} (hd : 12 < d) (H : f127 s p1 p2 = some z) : n_C X d 127 [.ref 0, .int p1, .int p2] (g_M s ex) (g_rPI s z ex) := by
  obtain ⟨d, rfl⟩ : ∃ d1, d = d1 + 1 := ⟨d - 1, by omega⟩
  replace hd := Nat.le_of_lt_succ hd
  refine ⟨Nat.le_of_ble_eq_true rfl, ?_⟩
  rw [md_127]
  show n_R X (d + 1) 127 0 [some (.ref 0), some (.int p1), some (.int p2)] [] (g_M s ex) _
  unfold f127 at H
  refine g_go 1 md_127 (i1 := 1) rfl ?_
  refine g_getr 85 (n_q md_127 rfl) t_0 rfl ?_
  refine g_go 5 md_127 (i1 := 7) rfl ?_
  obtain ⟨h1, H⟩ := g_gd H
  refine g_iald (n_q md_127 rfl) t_85 h1 ?_
  by_cases h2 : 0 < (s 85 ((p2 * 13) + p1).toNatClampNeg)
  · rw [if_pos h2] at H
    refine n_ifF (n_q md_127 rfl) (fun e1 => absurd (of_decide_eq_true e1) (Int32.not_le.mpr h2)) ?_
    refine g_go 2 md_127 (i1 := 12) rfl ?_
    cases H
    exact n_iret (n_q md_127 rfl) (Or.inr rfl)
  · rw [if_neg h2] at H
    refine n_ifT (n_q md_127 rfl) (decide_eq_true (Int32.not_lt.mp h2)) ?_
    refine g_go 1 md_127 (i1 := 12) rfl ?_
    cases H
    exact n_iret (n_q md_127 rfl) (Or.inr rfl)

theorem md_128 : m_md 128 = m_X7_burdenedCases := rfl
noncomputable def f128_4 (s : g_S) (p1 : Int32) (x2 : Int32) (x3 : Int32) : Option ((Int32 × Int32) ⊕ (Int32)) := ((f125 s).bind fun v1 => if x3 < v1 then ((f127 s p1 x3).bind fun v3 => if v3 = 0 then (some (.inl (x2, x3 + 1))) else (some (.inl (x2 + 1, x3 + 1)))) else (some (.inr (x2))))
theorem P128_4 {d ex : Nat} {rr : m_R} {s : g_S} {p1 : Int32} {x2 : Int32} {x3 : Int32}   {z : ((Int32 × Int32) ⊕ (Int32))} (H : f128_4 s p1 x2 x3 = some z) (hd : 13 ≤ d) (K0 : ∀ S : Int32 × Int32, z = .inl S → n_R X (d + 1) 128 4 [some (.ref 0), some (.int p1), some (.int S.1), some (.int S.2)] [] (g_M s ex) rr) (Kr : ∀ q, z = .inr (q) → g_rPI s q ex = rr) : n_R X (d + 1) 128 4 [some (.ref 0), some (.int p1), some (.int x2), some (.int x3)] [] (g_M s ex) rr := by
  unfold f128_4 at H
  refine g_go 2 md_128 (i1 := 6) rfl ?_
  obtain ⟨v1, hv1, H⟩ := g_bind H
  refine n_callv (n_q md_128 rfl) (As := [.ref 0]) (rest := [.int x3]) rfl rfl (Nat.le_of_ble_eq_true rfl) rfl (g_recv (b := 0) rfl t_0 rfl) (C125 (by omega) hv1) ?_
  by_cases h2 : x3 < v1
  · rw [if_pos h2] at H
    refine n_cmpF (n_q md_128 rfl) (fun e1 => absurd (of_decide_eq_true e1) (Int32.not_le.mpr h2)) ?_
    refine g_go 3 md_128 (i1 := 11) rfl ?_
    obtain ⟨v3, hv3, H⟩ := g_bind H
    refine n_callv (n_q md_128 rfl) (As := [.ref 0, .int p1, .int x3]) (rest := []) rfl rfl (Nat.le_of_ble_eq_true rfl) rfl (g_recv (b := 0) rfl t_0 rfl) (C127 (by omega) hv3) ?_
    by_cases h4 : v3 = 0
    · rw [if_pos h4] at H
      refine n_ifT (n_q md_128 rfl) (decide_eq_true h4) ?_
      refine g_go 2 md_128 (i1 := 4) (ls1 := [some (.ref 0), some (.int p1), some (.int x2), some (.int (x3 + 1))]) rfl ?_
      cases H
      exact K0 (x2, x3 + 1) rfl
    · rw [if_neg h4] at H
      refine n_ifF (n_q md_128 rfl) (fun e1 => h4 (of_decide_eq_true e1)) ?_
      refine g_go 3 md_128 (i1 := 4) (ls1 := [some (.ref 0), some (.int p1), some (.int (x2 + 1)), some (.int (x3 + 1))]) rfl ?_
      cases H
      exact K0 (x2 + 1, x3 + 1) rfl
  · rw [if_neg h2] at H
    refine n_cmpT (n_q md_128 rfl) (decide_eq_true (Int32.not_lt.mp h2)) ?_
    refine g_go 1 md_128 (i1 := 17) rfl ?_
    cases H
    rw [← Kr _ rfl]
    exact n_iret (n_q md_128 rfl) (Or.inl rfl)
noncomputable def f128_4L (s : g_S) (p1 : Int32) (x2 : Int32) (x3 : Int32) : Option (Int32) := g_run (fun S : Int32 × Int32 => f128_4 s p1 S.1 S.2) (x2, x3)
theorem f128_4L_eq (s : g_S) (p1 : Int32) (x2 : Int32) (x3 : Int32) : f128_4L s p1 x2 x3 = g_st (f128_4 s p1 x2 x3) (fun S => f128_4L s p1 S.1 S.2) := by
  unfold f128_4L
  exact g_run_eq _ _
theorem P128_4L {d ex : Nat} {s : g_S} {p1 : Int32} {x2 : Int32} {x3 : Int32}   {z : (Int32)} (H : f128_4L s p1 x2 x3 = some z) (hd : 13 ≤ d)  : n_R X (d + 1) 128 4 [some (.ref 0), some (.int p1), some (.int x2), some (.int x3)] [] (g_M s ex) (g_rPI s z ex) := by
  unfold f128_4L at H
  refine g_rs (Q := fun S => n_R X (d + 1) 128 4 [some (.ref 0), some (.int p1), some (.int S.1), some (.int S.2)] [] (g_M s ex) (g_rPI s z ex)) H ?_
  intro S w hb K0 KK
  refine P128_4 hb hd ?_ ?_
  · exact fun S1 e1 => K0 S1 e1
  · exact fun q e1 => by rw [KK q e1]
noncomputable def f128 (s : g_S) (p1 : Int32) : Option (Int32) := (f128_4L s p1 0 0)
theorem C128 {d ex : Nat} {s : g_S} {p1 : Int32}  {z : Int32} (hd : 13 < d) (H : f128 s p1 = some z) : n_C X d 128 [.ref 0, .int p1] (g_M s ex) (g_rPI s z ex) := by
  obtain ⟨d, rfl⟩ : ∃ d1, d = d1 + 1 := ⟨d - 1, by omega⟩
  replace hd := Nat.le_of_lt_succ hd
  refine ⟨Nat.le_of_ble_eq_true rfl, ?_⟩
  rw [md_128]
  show n_R X (d + 1) 128 0 [some (.ref 0), some (.int p1), none, none] [] (g_M s ex) _
  unfold f128 at H
  refine g_go 4 md_128 (i1 := 4) (ls1 := [some (.ref 0), some (.int p1), some (.int 0), some (.int 0)]) rfl ?_
  exact P128_4L H hd

theorem md_100 : m_md 100 = m_X7_sure := rfl
noncomputable def f100 (s : g_S) (p1 : Int32) : Option ((Int32 ⊕ Nat) × g_S) := (g_tb (f117 s p1) fun _ s2 => (f126 s2).bind fun s4 => (f128 s4 p1).bind fun v5 => (f125 s4).bind fun v6 => if v5 = v6 then (some ((.inl 2, s4))) else (if 0 < v5 then (some ((.inl 1, s4))) else (some ((.inl 0, s4)))))
theorem C100 {d ex : Nat} {s : g_S} {p1 : Int32}  {z : (Int32 ⊕ Nat) × g_S} (hd : 18 < d) (H : f100 s p1 = some z) : n_C X d 100 [.ref 0, .int p1] (g_M s ex) (g_rTI z ex) := by
  obtain ⟨d, rfl⟩ : ∃ d1, d = d1 + 1 := ⟨d - 1, by omega⟩
  replace hd := Nat.le_of_lt_succ hd
  refine ⟨Nat.le_of_ble_eq_true rfl, ?_⟩
  rw [md_100]
  show n_R X (d + 1) 100 0 [some (.ref 0), some (.int p1), none] [] (g_M s ex) _
  unfold f100 at H
  refine g_go 2 md_100 (i1 := 2) rfl ?_
  rcases g_tbp H with ⟨v1, s2, hv1, H⟩ | ⟨v1, s2, hv1, H⟩
  rotate_left
  · cases H
    refine n_callx (z := .inl none) (n_q md_100 rfl) (As := [.ref 0, .int p1]) (rest := []) rfl rfl (Nat.le_of_ble_eq_true rfl) rfl (g_recv (b := 0) rfl t_0 rfl) (C117 (by omega) hv1) rfl
  refine n_call (n_q md_100 rfl) (As := [.ref 0, .int p1]) (rest := []) rfl rfl (Nat.le_of_ble_eq_true rfl) rfl (g_recv (b := 0) rfl t_0 rfl) (C117 (by omega) hv1) ?_
  refine g_go 1 md_100 (i1 := 4) rfl ?_
  obtain ⟨s4, hs4, H⟩ := g_bind H
  refine n_call (n_q md_100 rfl) (As := [.ref 0]) (rest := []) rfl rfl (Nat.le_of_ble_eq_true rfl) rfl (g_recv (b := 0) rfl t_0 rfl) (C126 (by omega) hs4) ?_
  refine g_go 2 md_100 (i1 := 7) rfl ?_
  obtain ⟨v5, hv5, H⟩ := g_bind H
  refine n_callv (n_q md_100 rfl) (As := [.ref 0, .int p1]) (rest := []) rfl rfl (Nat.le_of_ble_eq_true rfl) rfl (g_recv (b := 0) rfl t_0 rfl) (C128 (by omega) hv5) ?_
  refine g_go 3 md_100 (i1 := 11) (ls1 := [some (.ref 0), some (.int p1), some (.int v5)]) rfl ?_
  obtain ⟨v6, hv6, H⟩ := g_bind H
  refine n_callv (n_q md_100 rfl) (As := [.ref 0]) (rest := [.int v5]) rfl rfl (Nat.le_of_ble_eq_true rfl) rfl (g_recv (b := 0) rfl t_0 rfl) (C125 (by omega) hv6) ?_
  by_cases h7 : v5 = v6
  · rw [if_pos h7] at H
    refine n_cmpF (n_q md_100 rfl) (fun e1 => of_decide_eq_true e1 h7) ?_
    refine g_go 1 md_100 (i1 := 14) rfl ?_
    cases H
    exact n_iret (n_q md_100 rfl) (Or.inl rfl)
  · rw [if_neg h7] at H
    refine n_cmpT (n_q md_100 rfl) (decide_eq_true h7) ?_
    refine g_go 1 md_100 (i1 := 16) rfl ?_
    by_cases h8 : 0 < v5
    · rw [if_pos h8] at H
      refine n_ifF (n_q md_100 rfl) (fun e1 => absurd (of_decide_eq_true e1) (Int32.not_le.mpr h8)) ?_
      refine g_go 2 md_100 (i1 := 20) rfl ?_
      cases H
      exact n_iret (n_q md_100 rfl) (Or.inl rfl)
    · rw [if_neg h8] at H
      refine n_ifT (n_q md_100 rfl) (decide_eq_true (Int32.not_lt.mp h8)) ?_
      refine g_go 1 md_100 (i1 := 20) rfl ?_
      cases H
      exact n_iret (n_q md_100 rfl) (Or.inl rfl)

theorem md_101 : m_md 101 = m_X7_cases := rfl
noncomputable def f101 (s : g_S) (p1 : Int32) : Option ((Int32 ⊕ Nat) × g_S) := (g_tb (f117 s p1) fun _ s2 => (f126 s2).bind fun s4 => (f128 s4 p1).bind fun v5 => some ((.inl v5, s4)))
theorem C101 {d ex : Nat} {s : g_S} {p1 : Int32}  {z : (Int32 ⊕ Nat) × g_S} (hd : 18 < d) (H : f101 s p1 = some z) : n_C X d 101 [.ref 0, .int p1] (g_M s ex) (g_rTI z ex) := by
  obtain ⟨d, rfl⟩ : ∃ d1, d = d1 + 1 := ⟨d - 1, by omega⟩
  replace hd := Nat.le_of_lt_succ hd
  refine ⟨Nat.le_of_ble_eq_true rfl, ?_⟩
  rw [md_101]
  show n_R X (d + 1) 101 0 [some (.ref 0), some (.int p1)] [] (g_M s ex) _
  unfold f101 at H
  refine g_go 2 md_101 (i1 := 2) rfl ?_
  rcases g_tbp H with ⟨v1, s2, hv1, H⟩ | ⟨v1, s2, hv1, H⟩
  rotate_left
  · cases H
    refine n_callx (z := .inl none) (n_q md_101 rfl) (As := [.ref 0, .int p1]) (rest := []) rfl rfl (Nat.le_of_ble_eq_true rfl) rfl (g_recv (b := 0) rfl t_0 rfl) (C117 (by omega) hv1) rfl
  refine n_call (n_q md_101 rfl) (As := [.ref 0, .int p1]) (rest := []) rfl rfl (Nat.le_of_ble_eq_true rfl) rfl (g_recv (b := 0) rfl t_0 rfl) (C117 (by omega) hv1) ?_
  refine g_go 1 md_101 (i1 := 4) rfl ?_
  obtain ⟨s4, hs4, H⟩ := g_bind H
  refine n_call (n_q md_101 rfl) (As := [.ref 0]) (rest := []) rfl rfl (Nat.le_of_ble_eq_true rfl) rfl (g_recv (b := 0) rfl t_0 rfl) (C126 (by omega) hs4) ?_
  refine g_go 2 md_101 (i1 := 7) rfl ?_
  obtain ⟨v5, hv5, H⟩ := g_bind H
  refine n_callv (n_q md_101 rfl) (As := [.ref 0, .int p1]) (rest := []) rfl rfl (Nat.le_of_ble_eq_true rfl) rfl (g_recv (b := 0) rfl t_0 rfl) (C128 (by omega) hv5) ?_
  cases H
  exact n_iret (n_q md_101 rfl) (Or.inl rfl)

theorem md_129 : m_md 129 = m_X7_casesLikeBit := rfl
noncomputable def f129_22 (s : g_S) (p1 : Int32) (p2 : Int32) (x3 : Int32) (x4 : Int32) (y0 : Int32) (y1 : Int32) : Option ((Int32 × Int32) ⊕ (Int32)) := (if y0 = y1 then (some (.inl (x3 + 1, x4 + 1))) else (some (.inl (x3, x4 + 1))))
theorem P129_22 {d ex : Nat} {rr : m_R} {s : g_S} {p1 : Int32} {p2 : Int32} {x3 : Int32} {x4 : Int32} {y0 : Int32} {y1 : Int32}   {z : ((Int32 × Int32) ⊕ (Int32))} (H : f129_22 s p1 p2 x3 x4 y0 y1 = some z) (hd : 13 ≤ d) (K0 : ∀ S : Int32 × Int32, z = .inl S → n_R X (d + 1) 129 4 [some (.ref 0), some (.int p1), some (.int p2), some (.int S.1), some (.int S.2)] [] (g_M s ex) rr) (Kr : ∀ q, z = .inr (q) → g_rPI s q ex = rr) : n_R X (d + 1) 129 22 [some (.ref 0), some (.int p1), some (.int p2), some (.int x3), some (.int x4)] [.int y1, .int y0] (g_M s ex) rr := by
  unfold f129_22 at H
  by_cases h1 : y0 = y1
  · rw [if_pos h1] at H
    refine n_cmpF (n_q md_129 rfl) (fun e1 => of_decide_eq_true e1 h1) ?_
    refine g_go 3 md_129 (i1 := 4) (ls1 := [some (.ref 0), some (.int p1), some (.int p2), some (.int (x3 + 1)), some (.int (x4 + 1))]) rfl ?_
    cases H
    exact K0 (x3 + 1, x4 + 1) rfl
  · rw [if_neg h1] at H
    refine n_cmpT (n_q md_129 rfl) (decide_eq_true h1) ?_
    refine g_go 2 md_129 (i1 := 4) (ls1 := [some (.ref 0), some (.int p1), some (.int p2), some (.int x3), some (.int (x4 + 1))]) rfl ?_
    cases H
    exact K0 (x3, x4 + 1) rfl
noncomputable def f129_4 (s : g_S) (p1 : Int32) (p2 : Int32) (x3 : Int32) (x4 : Int32) : Option ((Int32 × Int32) ⊕ (Int32)) := ((f125 s).bind fun v1 => if x4 < v1 then ((f127 s p1 x4).bind fun v3 => if ((x4 >>> (p2 &&& 31)) &&& 1) = 1 then (f129_22 s p1 p2 x3 x4 v3 1) else (f129_22 s p1 p2 x3 x4 v3 0)) else (some (.inr (x3))))
theorem P129_4 {d ex : Nat} {rr : m_R} {s : g_S} {p1 : Int32} {p2 : Int32} {x3 : Int32} {x4 : Int32}   {z : ((Int32 × Int32) ⊕ (Int32))} (H : f129_4 s p1 p2 x3 x4 = some z) (hd : 13 ≤ d) (K0 : ∀ S : Int32 × Int32, z = .inl S → n_R X (d + 1) 129 4 [some (.ref 0), some (.int p1), some (.int p2), some (.int S.1), some (.int S.2)] [] (g_M s ex) rr) (Kr : ∀ q, z = .inr (q) → g_rPI s q ex = rr) : n_R X (d + 1) 129 4 [some (.ref 0), some (.int p1), some (.int p2), some (.int x3), some (.int x4)] [] (g_M s ex) rr := by
  unfold f129_4 at H
  refine g_go 2 md_129 (i1 := 6) rfl ?_
  obtain ⟨v1, hv1, H⟩ := g_bind H
  refine n_callv (n_q md_129 rfl) (As := [.ref 0]) (rest := [.int x4]) rfl rfl (Nat.le_of_ble_eq_true rfl) rfl (g_recv (b := 0) rfl t_0 rfl) (C125 (by omega) hv1) ?_
  by_cases h2 : x4 < v1
  · rw [if_pos h2] at H
    refine n_cmpF (n_q md_129 rfl) (fun e1 => absurd (of_decide_eq_true e1) (Int32.not_le.mpr h2)) ?_
    refine g_go 3 md_129 (i1 := 11) rfl ?_
    obtain ⟨v3, hv3, H⟩ := g_bind H
    refine n_callv (n_q md_129 rfl) (As := [.ref 0, .int p1, .int x4]) (rest := []) rfl rfl (Nat.le_of_ble_eq_true rfl) rfl (g_recv (b := 0) rfl t_0 rfl) (C127 (by omega) hv3) ?_
    refine g_go 6 md_129 (i1 := 18) rfl ?_
    by_cases h4 : ((x4 >>> (p2 &&& 31)) &&& 1) = 1
    · rw [if_pos h4] at H
      refine n_cmpF (n_q md_129 rfl) (fun e1 => of_decide_eq_true e1 h4) ?_
      refine g_go 2 md_129 (i1 := 22) rfl ?_
      exact P129_22 H hd K0 Kr
    · rw [if_neg h4] at H
      refine n_cmpT (n_q md_129 rfl) (decide_eq_true h4) ?_
      refine g_go 1 md_129 (i1 := 22) rfl ?_
      exact P129_22 H hd K0 Kr
  · rw [if_neg h2] at H
    refine n_cmpT (n_q md_129 rfl) (decide_eq_true (Int32.not_lt.mp h2)) ?_
    refine g_go 1 md_129 (i1 := 27) rfl ?_
    cases H
    rw [← Kr _ rfl]
    exact n_iret (n_q md_129 rfl) (Or.inl rfl)
noncomputable def f129_4L (s : g_S) (p1 : Int32) (p2 : Int32) (x3 : Int32) (x4 : Int32) : Option (Int32) := g_run (fun S : Int32 × Int32 => f129_4 s p1 p2 S.1 S.2) (x3, x4)
theorem f129_4L_eq (s : g_S) (p1 : Int32) (p2 : Int32) (x3 : Int32) (x4 : Int32) : f129_4L s p1 p2 x3 x4 = g_st (f129_4 s p1 p2 x3 x4) (fun S => f129_4L s p1 p2 S.1 S.2) := by
  unfold f129_4L
  exact g_run_eq _ _
theorem P129_4L {d ex : Nat} {s : g_S} {p1 : Int32} {p2 : Int32} {x3 : Int32} {x4 : Int32}   {z : (Int32)} (H : f129_4L s p1 p2 x3 x4 = some z) (hd : 13 ≤ d)  : n_R X (d + 1) 129 4 [some (.ref 0), some (.int p1), some (.int p2), some (.int x3), some (.int x4)] [] (g_M s ex) (g_rPI s z ex) := by
  unfold f129_4L at H
  refine g_rs (Q := fun S => n_R X (d + 1) 129 4 [some (.ref 0), some (.int p1), some (.int p2), some (.int S.1), some (.int S.2)] [] (g_M s ex) (g_rPI s z ex)) H ?_
  intro S w hb K0 KK
  refine P129_4 hb hd ?_ ?_
  · exact fun S1 e1 => K0 S1 e1
  · exact fun q e1 => by rw [KK q e1]
noncomputable def f129 (s : g_S) (p1 : Int32) (p2 : Int32) : Option (Int32) := (f129_4L s p1 p2 0 0)
theorem C129 {d ex : Nat} {s : g_S} {p1 : Int32} {p2 : Int32}  {z : Int32} (hd : 13 < d) (H : f129 s p1 p2 = some z) : n_C X d 129 [.ref 0, .int p1, .int p2] (g_M s ex) (g_rPI s z ex) := by
  obtain ⟨d, rfl⟩ : ∃ d1, d = d1 + 1 := ⟨d - 1, by omega⟩
  replace hd := Nat.le_of_lt_succ hd
  refine ⟨Nat.le_of_ble_eq_true rfl, ?_⟩
  rw [md_129]
  show n_R X (d + 1) 129 0 [some (.ref 0), some (.int p1), some (.int p2), none, none] [] (g_M s ex) _
  unfold f129 at H
  refine g_go 4 md_129 (i1 := 4) (ls1 := [some (.ref 0), some (.int p1), some (.int p2), some (.int 0), some (.int 0)]) rfl ?_
  exact P129_4L H hd

theorem md_102 : m_md 102 = m_X7_hangs := rfl
noncomputable def f102_7 (s : g_S) (p1 : Int32) (x2 : Int32) : Option ((Int32) ⊕ ((Int32 ⊕ Nat) × g_S)) := (if x2 < (s 22 7) then ((f129 s p1 x2).bind fun v2 => if v2 = 0 then (some (.inr ((.inl x2, s)))) else ((f125 s).bind fun v4 => if v2 = v4 then (some (.inr ((.inl x2, s)))) else (some (.inl (x2 + 1))))) else (some (.inr ((.inl ((-1)), s)))))
theorem P102_7 {d ex : Nat} {rr : m_R} {s : g_S} {p1 : Int32} {x2 : Int32} {u3 : Option Value}   {z : ((Int32) ⊕ ((Int32 ⊕ Nat) × g_S))} (H : f102_7 s p1 x2 = some z) (hd : 18 ≤ d) (K0 : ∀ S : Int32, z = .inl S → ∀ u3 : Option Value, n_R X (d + 1) 102 7 [some (.ref 0), some (.int p1), some (.int S), u3] [] (g_M s ex) rr) (Kr : ∀ q, z = .inr (q) → g_rTI q ex = rr) : n_R X (d + 1) 102 7 [some (.ref 0), some (.int p1), some (.int x2), u3] [] (g_M s ex) rr := by
  unfold f102_7 at H
  refine g_go 2 md_102 (i1 := 9) rfl ?_
  refine g_getr 22 (n_q md_102 rfl) t_0 rfl ?_
  refine g_getf (n_q md_102 rfl) t_22 rfl ?_
  by_cases h1 : x2 < (s 22 7)
  · rw [if_pos h1] at H
    refine n_cmpF (n_q md_102 rfl) (fun e1 => absurd (of_decide_eq_true e1) (Int32.not_le.mpr h1)) ?_
    refine g_go 3 md_102 (i1 := 15) rfl ?_
    obtain ⟨v2, hv2, H⟩ := g_bind H
    refine n_callv (n_q md_102 rfl) (As := [.ref 0, .int p1, .int x2]) (rest := []) rfl rfl (Nat.le_of_ble_eq_true rfl) rfl (g_recv (b := 0) rfl t_0 rfl) (C129 (by omega) hv2) ?_
    refine g_go 2 md_102 (i1 := 18) (ls1 := [some (.ref 0), some (.int p1), some (.int x2), some (.int v2)]) rfl ?_
    by_cases h3 : v2 = 0
    · rw [if_pos h3] at H
      refine n_ifT (n_q md_102 rfl) (decide_eq_true h3) ?_
      refine g_go 1 md_102 (i1 := 24) rfl ?_
      cases H
      rw [← Kr _ rfl]
      exact n_iret (n_q md_102 rfl) (Or.inl rfl)
    · rw [if_neg h3] at H
      refine n_ifF (n_q md_102 rfl) (fun e1 => h3 (of_decide_eq_true e1)) ?_
      refine g_go 2 md_102 (i1 := 21) rfl ?_
      obtain ⟨v4, hv4, H⟩ := g_bind H
      refine n_callv (n_q md_102 rfl) (As := [.ref 0]) (rest := [.int v2]) rfl rfl (Nat.le_of_ble_eq_true rfl) rfl (g_recv (b := 0) rfl t_0 rfl) (C125 (by omega) hv4) ?_
      by_cases h5 : v2 = v4
      · rw [if_pos h5] at H
        refine n_cmpF (n_q md_102 rfl) (fun e1 => of_decide_eq_true e1 h5) ?_
        refine g_go 1 md_102 (i1 := 24) rfl ?_
        cases H
        rw [← Kr _ rfl]
        exact n_iret (n_q md_102 rfl) (Or.inl rfl)
      · rw [if_neg h5] at H
        refine n_cmpT (n_q md_102 rfl) (decide_eq_true h5) ?_
        refine g_go 2 md_102 (i1 := 7) (ls1 := [some (.ref 0), some (.int p1), some (.int (x2 + 1)), some (.int v2)]) rfl ?_
        cases H
        exact K0 (x2 + 1) rfl _
  · rw [if_neg h1] at H
    refine n_cmpT (n_q md_102 rfl) (decide_eq_true (Int32.not_lt.mp h1)) ?_
    refine g_go 1 md_102 (i1 := 28) rfl ?_
    cases H
    rw [← Kr _ rfl]
    exact n_iret (n_q md_102 rfl) (Or.inl rfl)
noncomputable def f102_7L (s : g_S) (p1 : Int32) (x2 : Int32) : Option ((Int32 ⊕ Nat) × g_S) := g_run (fun S : Int32 => f102_7 s p1 S) x2
theorem f102_7L_eq (s : g_S) (p1 : Int32) (x2 : Int32) : f102_7L s p1 x2 = g_st (f102_7 s p1 x2) (fun S => f102_7L s p1 S) := by
  unfold f102_7L
  exact g_run_eq _ _
theorem P102_7L {d ex : Nat} {s : g_S} {p1 : Int32} {x2 : Int32} {u3 : Option Value}   {z : ((Int32 ⊕ Nat) × g_S)} (H : f102_7L s p1 x2 = some z) (hd : 18 ≤ d)  : n_R X (d + 1) 102 7 [some (.ref 0), some (.int p1), some (.int x2), u3] [] (g_M s ex) (g_rTI z ex) := by
  unfold f102_7L at H
  refine g_rs (Q := fun S => ∀ u3 : Option Value, n_R X (d + 1) 102 7 [some (.ref 0), some (.int p1), some (.int S), u3] [] (g_M s ex) (g_rTI z ex)) H ?_ u3
  intro S w hb K0 KK u3
  refine P102_7 hb hd ?_ ?_
  · exact fun S1 e1 => K0 S1 e1
  · exact fun q e1 => by rw [KK q e1]
noncomputable def f102 (s : g_S) (p1 : Int32) : Option ((Int32 ⊕ Nat) × g_S) := (g_tb (f117 s p1) fun _ s2 => (f126 s2).bind fun s4 => f102_7L s4 p1 0)
theorem C102 {d ex : Nat} {s : g_S} {p1 : Int32}  {z : (Int32 ⊕ Nat) × g_S} (hd : 18 < d) (H : f102 s p1 = some z) : n_C X d 102 [.ref 0, .int p1] (g_M s ex) (g_rTI z ex) := by
  obtain ⟨d, rfl⟩ : ∃ d1, d = d1 + 1 := ⟨d - 1, by omega⟩
  replace hd := Nat.le_of_lt_succ hd
  refine ⟨Nat.le_of_ble_eq_true rfl, ?_⟩
  rw [md_102]
  show n_R X (d + 1) 102 0 [some (.ref 0), some (.int p1), none, none] [] (g_M s ex) _
  unfold f102 at H
  refine g_go 2 md_102 (i1 := 2) rfl ?_
  rcases g_tbp H with ⟨v1, s2, hv1, H⟩ | ⟨v1, s2, hv1, H⟩
  rotate_left
  · cases H
    refine n_callx (z := .inl none) (n_q md_102 rfl) (As := [.ref 0, .int p1]) (rest := []) rfl rfl (Nat.le_of_ble_eq_true rfl) rfl (g_recv (b := 0) rfl t_0 rfl) (C117 (by omega) hv1) rfl
  refine n_call (n_q md_102 rfl) (As := [.ref 0, .int p1]) (rest := []) rfl rfl (Nat.le_of_ble_eq_true rfl) rfl (g_recv (b := 0) rfl t_0 rfl) (C117 (by omega) hv1) ?_
  refine g_go 1 md_102 (i1 := 4) rfl ?_
  obtain ⟨s4, hs4, H⟩ := g_bind H
  refine n_call (n_q md_102 rfl) (As := [.ref 0]) (rest := []) rfl rfl (Nat.le_of_ble_eq_true rfl) rfl (g_recv (b := 0) rfl t_0 rfl) (C126 (by omega) hs4) ?_
  refine g_go 2 md_102 (i1 := 7) (ls1 := [some (.ref 0), some (.int p1), some (.int 0), none]) rfl ?_
  exact P102_7L H hd

theorem md_131 : m_md 131 = m_X7_areBorneAlike := rfl
noncomputable def f131_2 (s : g_S) (p1 : Int32) (p2 : Int32) (x3 : Int32) : Option ((Int32) ⊕ (Int32)) := (if x3 < 13 then (if m_in ((p1 * 13) + x3) 3328 = true then if m_in ((p2 * 13) + x3) 3328 = true then if (s 85 ((p1 * 13) + x3).toNatClampNeg) = (s 85 ((p2 * 13) + x3).toNatClampNeg) then (some (.inl (x3 + 1))) else (some (.inr (0))) else none else none) else (some (.inr (1))))
theorem P131_2 {d ex : Nat} {rr : m_R} {s : g_S} {p1 : Int32} {p2 : Int32} {x3 : Int32}   {z : ((Int32) ⊕ (Int32))} (H : f131_2 s p1 p2 x3 = some z) (hd : 12 ≤ d) (K0 : ∀ S : Int32, z = .inl S → n_R X (d + 1) 131 2 [some (.ref 0), some (.int p1), some (.int p2), some (.int S)] [] (g_M s ex) rr) (Kr : ∀ q, z = .inr (q) → g_rPI s q ex = rr) : n_R X (d + 1) 131 2 [some (.ref 0), some (.int p1), some (.int p2), some (.int x3)] [] (g_M s ex) rr := by
  unfold f131_2 at H
  refine g_go 2 md_131 (i1 := 4) rfl ?_
  by_cases h1 : x3 < 13
  · rw [if_pos h1] at H
    refine n_cmpF (n_q md_131 rfl) (fun e1 => absurd (of_decide_eq_true e1) (Int32.not_le.mpr h1)) ?_
    refine g_go 1 md_131 (i1 := 6) rfl ?_
    refine g_getr 85 (n_q md_131 rfl) t_0 rfl ?_
    refine g_go 5 md_131 (i1 := 12) rfl ?_
    obtain ⟨h2, H⟩ := g_gd H
    refine g_iald (n_q md_131 rfl) t_85 h2 ?_
    refine g_go 1 md_131 (i1 := 14) rfl ?_
    refine g_getr 85 (n_q md_131 rfl) t_0 rfl ?_
    refine g_go 5 md_131 (i1 := 20) rfl ?_
    obtain ⟨h3, H⟩ := g_gd H
    refine g_iald (n_q md_131 rfl) t_85 h3 ?_
    by_cases h4 : (s 85 ((p1 * 13) + x3).toNatClampNeg) = (s 85 ((p2 * 13) + x3).toNatClampNeg)
    · rw [if_pos h4] at H
      refine n_cmpT (n_q md_131 rfl) (decide_eq_true h4) ?_
      refine g_go 2 md_131 (i1 := 2) (ls1 := [some (.ref 0), some (.int p1), some (.int p2), some (.int (x3 + 1))]) rfl ?_
      cases H
      exact K0 (x3 + 1) rfl
    · rw [if_neg h4] at H
      refine n_cmpF (n_q md_131 rfl) (fun e1 => h4 (of_decide_eq_true e1)) ?_
      refine g_go 1 md_131 (i1 := 23) rfl ?_
      cases H
      rw [← Kr _ rfl]
      exact n_iret (n_q md_131 rfl) (Or.inr rfl)
  · rw [if_neg h1] at H
    refine n_cmpT (n_q md_131 rfl) (decide_eq_true (Int32.not_lt.mp h1)) ?_
    refine g_go 1 md_131 (i1 := 27) rfl ?_
    cases H
    rw [← Kr _ rfl]
    exact n_iret (n_q md_131 rfl) (Or.inr rfl)
noncomputable def f131_2L (s : g_S) (p1 : Int32) (p2 : Int32) (x3 : Int32) : Option (Int32) := g_run (fun S : Int32 => f131_2 s p1 p2 S) x3
theorem f131_2L_eq (s : g_S) (p1 : Int32) (p2 : Int32) (x3 : Int32) : f131_2L s p1 p2 x3 = g_st (f131_2 s p1 p2 x3) (fun S => f131_2L s p1 p2 S) := by
  unfold f131_2L
  exact g_run_eq _ _
theorem P131_2L {d ex : Nat} {s : g_S} {p1 : Int32} {p2 : Int32} {x3 : Int32}   {z : (Int32)} (H : f131_2L s p1 p2 x3 = some z) (hd : 12 ≤ d)  : n_R X (d + 1) 131 2 [some (.ref 0), some (.int p1), some (.int p2), some (.int x3)] [] (g_M s ex) (g_rPI s z ex) := by
  unfold f131_2L at H
  refine g_rs (Q := fun S => n_R X (d + 1) 131 2 [some (.ref 0), some (.int p1), some (.int p2), some (.int S)] [] (g_M s ex) (g_rPI s z ex)) H ?_
  intro S w hb K0 KK
  refine P131_2 hb hd ?_ ?_
  · exact fun S1 e1 => K0 S1 e1
  · exact fun q e1 => by rw [KK q e1]
noncomputable def f131 (s : g_S) (p1 : Int32) (p2 : Int32) : Option (Int32) := (f131_2L s p1 p2 0)
theorem C131 {d ex : Nat} {s : g_S} {p1 : Int32} {p2 : Int32}  {z : Int32} (hd : 12 < d) (H : f131 s p1 p2 = some z) : n_C X d 131 [.ref 0, .int p1, .int p2] (g_M s ex) (g_rPI s z ex) := by
  obtain ⟨d, rfl⟩ : ∃ d1, d = d1 + 1 := ⟨d - 1, by omega⟩
  replace hd := Nat.le_of_lt_succ hd
  refine ⟨Nat.le_of_ble_eq_true rfl, ?_⟩
  rw [md_131]
  show n_R X (d + 1) 131 0 [some (.ref 0), some (.int p1), some (.int p2), none] [] (g_M s ex) _
  unfold f131 at H
  refine g_go 2 md_131 (i1 := 2) (ls1 := [some (.ref 0), some (.int p1), some (.int p2), some (.int 0)]) rfl ?_
  exact P131_2L H hd

theorem md_130 : m_md 130 = m_X7_matters := rfl
noncomputable def f130_2 (s : g_S) (p1 : Int32) (x2 : Int32) : Option ((Int32) ⊕ (Int32)) := ((f125 s).bind fun v1 => if x2 < v1 then ((f131 s x2 (x2 &&& (((1 : Int32) <<< (p1 &&& 31)) ^^^ ((-1))))).bind fun v3 => if v3 = 0 then (some (.inr (1))) else (some (.inl (x2 + 1)))) else (some (.inr (0))))
theorem P130_2 {d ex : Nat} {rr : m_R} {s : g_S} {p1 : Int32} {x2 : Int32}   {z : ((Int32) ⊕ (Int32))} (H : f130_2 s p1 x2 = some z) (hd : 13 ≤ d) (K0 : ∀ S : Int32, z = .inl S → n_R X (d + 1) 130 2 [some (.ref 0), some (.int p1), some (.int S)] [] (g_M s ex) rr) (Kr : ∀ q, z = .inr (q) → g_rPI s q ex = rr) : n_R X (d + 1) 130 2 [some (.ref 0), some (.int p1), some (.int x2)] [] (g_M s ex) rr := by
  unfold f130_2 at H
  refine g_go 2 md_130 (i1 := 4) rfl ?_
  obtain ⟨v1, hv1, H⟩ := g_bind H
  refine n_callv (n_q md_130 rfl) (As := [.ref 0]) (rest := [.int x2]) rfl rfl (Nat.le_of_ble_eq_true rfl) rfl (g_recv (b := 0) rfl t_0 rfl) (C125 (by omega) hv1) ?_
  by_cases h2 : x2 < v1
  · rw [if_pos h2] at H
    refine n_cmpF (n_q md_130 rfl) (fun e1 => absurd (of_decide_eq_true e1) (Int32.not_le.mpr h2)) ?_
    refine g_go 9 md_130 (i1 := 15) rfl ?_
    obtain ⟨v3, hv3, H⟩ := g_bind H
    refine n_callv (n_q md_130 rfl) (As := [.ref 0, .int x2, .int (x2 &&& (((1 : Int32) <<< (p1 &&& 31)) ^^^ ((-1))))]) (rest := []) rfl rfl (Nat.le_of_ble_eq_true rfl) rfl (g_recv (b := 0) rfl t_0 rfl) (C131 (by omega) hv3) ?_
    by_cases h4 : v3 = 0
    · rw [if_pos h4] at H
      refine n_ifF (n_q md_130 rfl) (fun e1 => of_decide_eq_true e1 h4) ?_
      refine g_go 1 md_130 (i1 := 18) rfl ?_
      cases H
      rw [← Kr _ rfl]
      exact n_iret (n_q md_130 rfl) (Or.inr rfl)
    · rw [if_neg h4] at H
      refine n_ifT (n_q md_130 rfl) (decide_eq_true h4) ?_
      refine g_go 2 md_130 (i1 := 2) (ls1 := [some (.ref 0), some (.int p1), some (.int (x2 + 1))]) rfl ?_
      cases H
      exact K0 (x2 + 1) rfl
  · rw [if_neg h2] at H
    refine n_cmpT (n_q md_130 rfl) (decide_eq_true (Int32.not_lt.mp h2)) ?_
    refine g_go 1 md_130 (i1 := 22) rfl ?_
    cases H
    rw [← Kr _ rfl]
    exact n_iret (n_q md_130 rfl) (Or.inr rfl)
noncomputable def f130_2L (s : g_S) (p1 : Int32) (x2 : Int32) : Option (Int32) := g_run (fun S : Int32 => f130_2 s p1 S) x2
theorem f130_2L_eq (s : g_S) (p1 : Int32) (x2 : Int32) : f130_2L s p1 x2 = g_st (f130_2 s p1 x2) (fun S => f130_2L s p1 S) := by
  unfold f130_2L
  exact g_run_eq _ _
theorem P130_2L {d ex : Nat} {s : g_S} {p1 : Int32} {x2 : Int32}   {z : (Int32)} (H : f130_2L s p1 x2 = some z) (hd : 13 ≤ d)  : n_R X (d + 1) 130 2 [some (.ref 0), some (.int p1), some (.int x2)] [] (g_M s ex) (g_rPI s z ex) := by
  unfold f130_2L at H
  refine g_rs (Q := fun S => n_R X (d + 1) 130 2 [some (.ref 0), some (.int p1), some (.int S)] [] (g_M s ex) (g_rPI s z ex)) H ?_
  intro S w hb K0 KK
  refine P130_2 hb hd ?_ ?_
  · exact fun S1 e1 => K0 S1 e1
  · exact fun q e1 => by rw [KK q e1]
noncomputable def f130 (s : g_S) (p1 : Int32) : Option (Int32) := (f130_2L s p1 0)
theorem C130 {d ex : Nat} {s : g_S} {p1 : Int32}  {z : Int32} (hd : 13 < d) (H : f130 s p1 = some z) : n_C X d 130 [.ref 0, .int p1] (g_M s ex) (g_rPI s z ex) := by
  obtain ⟨d, rfl⟩ : ∃ d1, d = d1 + 1 := ⟨d - 1, by omega⟩
  replace hd := Nat.le_of_lt_succ hd
  refine ⟨Nat.le_of_ble_eq_true rfl, ?_⟩
  rw [md_130]
  show n_R X (d + 1) 130 0 [some (.ref 0), some (.int p1), none] [] (g_M s ex) _
  unfold f130 at H
  refine g_go 2 md_130 (i1 := 2) (ls1 := [some (.ref 0), some (.int p1), some (.int 0)]) rfl ?_
  exact P130_2L H hd

theorem md_103 : m_md 103 = m_X7_least := rfl
noncomputable def f103_6 (s : g_S) (x1 : Int32) (x2 : Int32) : Option ((Int32 × Int32) ⊕ (Int32 × g_S)) := (if x2 < (s 22 7) then ((f130 s x2).bind fun v2 => if v2 = 0 then (some (.inl (x1, x2 + 1))) else (some (.inl (x1 ||| ((1 : Int32) <<< (x2 &&& 31)), x2 + 1)))) else (some (.inr ((x1, s)))))
theorem P103_6 {d ex : Nat} {rr : m_R} {s : g_S} {x1 : Int32} {x2 : Int32}   {z : ((Int32 × Int32) ⊕ (Int32 × g_S))} (H : f103_6 s x1 x2 = some z) (hd : 18 ≤ d) (K0 : ∀ S : Int32 × Int32, z = .inl S → n_R X (d + 1) 103 6 [some (.ref 0), some (.int S.1), some (.int S.2)] [] (g_M s ex) rr) (Kr : ∀ q, z = .inr (q) → g_rSI q ex = rr) : n_R X (d + 1) 103 6 [some (.ref 0), some (.int x1), some (.int x2)] [] (g_M s ex) rr := by
  unfold f103_6 at H
  refine g_go 2 md_103 (i1 := 8) rfl ?_
  refine g_getr 22 (n_q md_103 rfl) t_0 rfl ?_
  refine g_getf (n_q md_103 rfl) t_22 rfl ?_
  by_cases h1 : x2 < (s 22 7)
  · rw [if_pos h1] at H
    refine n_cmpF (n_q md_103 rfl) (fun e1 => absurd (of_decide_eq_true e1) (Int32.not_le.mpr h1)) ?_
    refine g_go 2 md_103 (i1 := 13) rfl ?_
    obtain ⟨v2, hv2, H⟩ := g_bind H
    refine n_callv (n_q md_103 rfl) (As := [.ref 0, .int x2]) (rest := []) rfl rfl (Nat.le_of_ble_eq_true rfl) rfl (g_recv (b := 0) rfl t_0 rfl) (C130 (by omega) hv2) ?_
    by_cases h3 : v2 = 0
    · rw [if_pos h3] at H
      refine n_ifT (n_q md_103 rfl) (decide_eq_true h3) ?_
      refine g_go 2 md_103 (i1 := 6) (ls1 := [some (.ref 0), some (.int x1), some (.int (x2 + 1))]) rfl ?_
      cases H
      exact K0 (x1, x2 + 1) rfl
    · rw [if_neg h3] at H
      refine n_ifF (n_q md_103 rfl) (fun e1 => h3 (of_decide_eq_true e1)) ?_
      refine g_go 8 md_103 (i1 := 6) (ls1 := [some (.ref 0), some (.int (x1 ||| ((1 : Int32) <<< (x2 &&& 31)))), some (.int (x2 + 1))]) rfl ?_
      cases H
      exact K0 (x1 ||| ((1 : Int32) <<< (x2 &&& 31)), x2 + 1) rfl
  · rw [if_neg h1] at H
    refine n_cmpT (n_q md_103 rfl) (decide_eq_true (Int32.not_lt.mp h1)) ?_
    refine g_go 1 md_103 (i1 := 24) rfl ?_
    cases H
    rw [← Kr _ rfl]
    exact n_iret (n_q md_103 rfl) (Or.inl rfl)
noncomputable def f103_6L (s : g_S) (x1 : Int32) (x2 : Int32) : Option (Int32 × g_S) := g_run (fun S : Int32 × Int32 => f103_6 s S.1 S.2) (x1, x2)
theorem f103_6L_eq (s : g_S) (x1 : Int32) (x2 : Int32) : f103_6L s x1 x2 = g_st (f103_6 s x1 x2) (fun S => f103_6L s S.1 S.2) := by
  unfold f103_6L
  exact g_run_eq _ _
theorem P103_6L {d ex : Nat} {s : g_S} {x1 : Int32} {x2 : Int32}   {z : (Int32 × g_S)} (H : f103_6L s x1 x2 = some z) (hd : 18 ≤ d)  : n_R X (d + 1) 103 6 [some (.ref 0), some (.int x1), some (.int x2)] [] (g_M s ex) (g_rSI z ex) := by
  unfold f103_6L at H
  refine g_rs (Q := fun S => n_R X (d + 1) 103 6 [some (.ref 0), some (.int S.1), some (.int S.2)] [] (g_M s ex) (g_rSI z ex)) H ?_
  intro S w hb K0 KK
  refine P103_6 hb hd ?_ ?_
  · exact fun S1 e1 => K0 S1 e1
  · exact fun q e1 => by rw [KK q e1]
noncomputable def f103 (s : g_S) : Option (Int32 × g_S) := ((f126 s).bind fun s2 => f103_6L s2 0 0)
theorem C103 {d ex : Nat} {s : g_S}  {z : Int32 × g_S} (hd : 18 < d) (H : f103 s = some z) : n_C X d 103 [.ref 0] (g_M s ex) (g_rSI z ex) := by
  obtain ⟨d, rfl⟩ : ∃ d1, d = d1 + 1 := ⟨d - 1, by omega⟩
  replace hd := Nat.le_of_lt_succ hd
  refine ⟨Nat.le_of_ble_eq_true rfl, ?_⟩
  rw [md_103]
  show n_R X (d + 1) 103 0 [some (.ref 0), none, none] [] (g_M s ex) _
  unfold f103 at H
  refine g_go 1 md_103 (i1 := 1) rfl ?_
  obtain ⟨s2, hs2, H⟩ := g_bind H
  refine n_call (n_q md_103 rfl) (As := [.ref 0]) (rest := []) rfl rfl (Nat.le_of_ble_eq_true rfl) rfl (g_recv (b := 0) rfl t_0 rfl) (C126 (by omega) hs2) ?_
  refine g_go 4 md_103 (i1 := 6) (ls1 := [some (.ref 0), some (.int 0), some (.int 0)]) rfl ?_
  exact P103_6L H hd

theorem md_104 : m_md 104 = m_X7_find := rfl
noncomputable def f104 (s : g_S) (p1 : Int32) (p2 : Int32) : Option ((Int32 ⊕ Nat) × g_S) := ((f118 s p1 ((s 22 7) - 1)).bind fun v1 => if v1 = 0 then (some (.inr 1, s)) else (if m_in p1 8 = true then (f8 s 22 (41 + p1.toNatClampNeg) p2 22).bind fun s5 => (f6 s5 22 p1).bind fun s7 => some ((.inl (s (41 + p1.toNatClampNeg) 0), s7)) else none))
theorem C104 {d ex : Nat} {s : g_S} {p1 : Int32} {p2 : Int32}  {z : (Int32 ⊕ Nat) × g_S} (hd : 14 < d) (H : f104 s p1 p2 = some z) : n_C X d 104 [.ref 0, .int p1, .int p2] (g_M s ex) (g_rTI z ex) := by
  obtain ⟨d, rfl⟩ : ∃ d1, d = d1 + 1 := ⟨d - 1, by omega⟩
  replace hd := Nat.le_of_lt_succ hd
  refine ⟨Nat.le_of_ble_eq_true rfl, ?_⟩
  rw [md_104]
  show n_R X (d + 1) 104 0 [some (.ref 0), some (.int p1), some (.int p2), none] [] (g_M s ex) _
  unfold f104 at H
  refine g_go 2 md_104 (i1 := 2) rfl ?_
  refine g_getr 22 (n_q md_104 rfl) t_0 rfl ?_
  refine g_getf (n_q md_104 rfl) t_22 rfl ?_
  refine g_go 2 md_104 (i1 := 6) rfl ?_
  obtain ⟨v1, hv1, H⟩ := g_bind H
  refine n_callv (n_q md_104 rfl) (As := [.int p1, .int ((s 22 7) - 1)]) (rest := []) rfl rfl (Nat.le_of_ble_eq_true rfl) rfl rfl (C118 (by omega) hv1) ?_
  by_cases h2 : v1 = 0
  · rw [if_pos h2] at H
    refine n_ifF (n_q md_104 rfl) (fun e1 => of_decide_eq_true e1 h2) ?_
    cases H
    exact g_throw (n_q md_104 rfl) (by omega) (Nat.le_of_ble_eq_true rfl)
  · rw [if_neg h2] at H
    refine n_ifT (n_q md_104 rfl) (decide_eq_true h2) ?_
    refine g_go 1 md_104 (i1 := 14) rfl ?_
    refine g_getr 22 (n_q md_104 rfl) t_0 rfl ?_
    refine g_getr 24 (n_q md_104 rfl) t_22 rfl ?_
    refine g_go 1 md_104 (i1 := 17) rfl ?_
    obtain ⟨h3, H⟩ := g_gd H
    refine g_aald (n_q md_104 rfl) ta_24 (by decide) h3 (g_range (g_inlt h3)) ?_
    refine g_getf (n_q md_104 rfl) (te_7 t_22 (g_inlt h3)) rfl ?_
    refine g_go 2 md_104 (i1 := 21) (ls1 := [some (.ref 0), some (.int p1), some (.int p2), some (.int (s (41 + p1.toNatClampNeg) 0))]) rfl ?_
    refine g_getr 22 (n_q md_104 rfl) t_0 rfl ?_
    refine g_go 1 md_104 (i1 := 23) rfl ?_
    refine g_getr 22 (n_q md_104 rfl) t_0 rfl ?_
    refine g_getr 24 (n_q md_104 rfl) t_22 rfl ?_
    refine g_go 1 md_104 (i1 := 26) rfl ?_
    refine g_aald (n_q md_104 rfl) ta_24 (by decide) h3 (g_range (g_inlt h3)) ?_
    refine g_go 2 md_104 (i1 := 29) rfl ?_
    refine g_getr 22 (n_q md_104 rfl) t_0 rfl ?_
    obtain ⟨s5, hs5, H⟩ := g_bind H
    refine n_call (n_q md_104 rfl) (As := [.ref 22, .ref (41 + p1.toNatClampNeg), .int p2, .ref 22]) (rest := []) rfl rfl (Nat.le_of_ble_eq_true rfl) rfl (g_recv (b := 0) rfl t_22 rfl) (C8 t_22 (te_7 t_22 (g_inlt h3)) t_22 (by omega) hs5) ?_
    refine g_go 1 md_104 (i1 := 32) rfl ?_
    refine g_getr 22 (n_q md_104 rfl) t_0 rfl ?_
    refine g_go 1 md_104 (i1 := 34) rfl ?_
    obtain ⟨s7, hs7, H⟩ := g_bind H
    refine n_call (n_q md_104 rfl) (As := [.ref 22, .int p1]) (rest := []) rfl rfl (Nat.le_of_ble_eq_true rfl) rfl (g_recv (b := 0) rfl t_22 rfl) (C6 t_22 (by omega) hs7) ?_
    refine g_go 1 md_104 (i1 := 36) rfl ?_
    cases H
    exact n_iret (n_q md_104 rfl) (Or.inl rfl)

theorem md_105 : m_md 105 = m_X7_title := rfl
noncomputable def f105 (s : g_S) : Option (Int32 × g_S) := ((f120 s).bind fun v1 => if g_lay v1 = o_4 v1 then (f10 s 22 v1).bind fun s4 => (f15 s4 (s4 22 2)).bind fun v5 => some ((v5, s4)) else none)
theorem C105 {d ex : Nat} {s : g_S}  {z : Int32 × g_S} (hd : 17 < d) (H : f105 s = some z) : n_C X d 105 [.ref 0] (g_M s ex) (g_rSI z ex) := by
  obtain ⟨d, rfl⟩ : ∃ d1, d = d1 + 1 := ⟨d - 1, by omega⟩
  replace hd := Nat.le_of_lt_succ hd
  refine ⟨Nat.le_of_ble_eq_true rfl, ?_⟩
  rw [md_105]
  show n_R X (d + 1) 105 0 [some (.ref 0)] [] (g_M s ex) _
  unfold f105 at H
  refine g_go 1 md_105 (i1 := 1) rfl ?_
  refine g_getr 77 (n_q md_105 rfl) t_0 rfl ?_
  refine g_go 1 md_105 (i1 := 3) rfl ?_
  refine g_getr 22 (n_q md_105 rfl) t_0 rfl ?_
  refine g_go 1 md_105 (i1 := 5) rfl ?_
  obtain ⟨v1, hv1, H⟩ := g_bind H
  refine n_callv (n_q md_105 rfl) (As := [.ref 0]) (rest := [.ref 22, .ref 77]) rfl rfl (Nat.le_of_ble_eq_true rfl) rfl (g_recv (b := 0) rfl t_0 rfl) (C120 (by omega) hv1) ?_
  obtain ⟨h2, H⟩ := g_gd H
  obtain ⟨s4, hs4, H⟩ := g_bind H
  refine n_call (n_q md_105 rfl) (As := [.ref 77, .ref 22, .ref v1]) (rest := []) rfl rfl (Nat.le_of_ble_eq_true rfl) rfl (g_recv (b := 0) rfl t_77 rfl) (C10 t_22 h2 (by omega) hs4) ?_
  refine g_go 1 md_105 (i1 := 8) rfl ?_
  refine g_getr 77 (n_q md_105 rfl) t_0 rfl ?_
  refine g_go 1 md_105 (i1 := 10) rfl ?_
  refine g_getr 22 (n_q md_105 rfl) t_0 rfl ?_
  refine g_getf (n_q md_105 rfl) t_22 rfl ?_
  obtain ⟨v5, hv5, H⟩ := g_bind H
  refine n_callv (n_q md_105 rfl) (As := [.ref 77, .int (s4 22 2)]) (rest := []) rfl rfl (Nat.le_of_ble_eq_true rfl) rfl (g_recv (b := 0) rfl t_77 rfl) (C15 (by omega) hv5) ?_
  cases H
  exact n_iret (n_q md_105 rfl) (Or.inl rfl)

theorem md_106 : m_md 106 = m_X7_found := rfl
noncomputable def f106_43 (s : g_S) (p1 : Int32) (p2 : Int32) (y0 : Int32) : Option ((Int32 ⊕ Nat) × g_S) := (if y0 = 0 then (some ((.inl p2, s))) else (some ((.inl (2 * p2), s))))
theorem P106_43 {d ex : Nat} {s : g_S} {p1 : Int32} {p2 : Int32} {y0 : Int32} {u3 : Option Value}   {z : ((Int32 ⊕ Nat) × g_S)} (H : f106_43 s p1 p2 y0 = some z) (hd : 17 ≤ d)  : n_R X (d + 1) 106 43 [some (.ref 0), some (.int p1), some (.int p2), u3] [.int y0] (g_M s ex) (g_rTI z ex) := by
  unfold f106_43 at H
  refine g_go 2 md_106 (i1 := 45) (ls1 := [some (.ref 0), some (.int p1), some (.int p2), some (.int y0)]) rfl ?_
  by_cases h1 : y0 = 0
  · rw [if_pos h1] at H
    refine n_ifT (n_q md_106 rfl) (decide_eq_true h1) ?_
    refine g_go 1 md_106 (i1 := 51) rfl ?_
    cases H
    exact n_iret (n_q md_106 rfl) (Or.inl rfl)
  · rw [if_neg h1] at H
    refine n_ifF (n_q md_106 rfl) (fun e1 => h1 (of_decide_eq_true e1)) ?_
    refine g_go 4 md_106 (i1 := 51) rfl ?_
    cases H
    exact n_iret (n_q md_106 rfl) (Or.inl rfl)
noncomputable def f106_42 (s : g_S) (p1 : Int32) (p2 : Int32) : Option ((Int32 ⊕ Nat) × g_S) := (f106_43 s p1 p2 0)
theorem P106_42 {d ex : Nat} {s : g_S} {p1 : Int32} {p2 : Int32} {u3 : Option Value}   {z : ((Int32 ⊕ Nat) × g_S)} (H : f106_42 s p1 p2 = some z) (hd : 17 ≤ d)  : n_R X (d + 1) 106 42 [some (.ref 0), some (.int p1), some (.int p2), u3] [] (g_M s ex) (g_rTI z ex) := by
  unfold f106_42 at H
  refine g_go 1 md_106 (i1 := 43) rfl ?_
  exact P106_43 H hd
noncomputable def f106 (s : g_S) (p1 : Int32) (p2 : Int32) : Option ((Int32 ⊕ Nat) × g_S) := (g_tb (f117 s p1) fun _ s2 => (f118 s2 p2 9999).bind fun v3 => g_tb (f116 s2 v3) fun _ s5 => (f120 s5).bind fun v6 => if g_lay v6 = o_4 v6 then (f10 s5 22 v6).bind fun s9 => (f15 s9 (s9 22 2)).bind fun v10 => if v10 = p1 then (if m_in p1 13 = true then if (s9 82 p1.toNatClampNeg) = 0 then (f106_42 s9 p1 p2) else ((f120 s9).bind fun v14 => if g_lay v14 = o_4 v14 then (f38 s9 v14 (s9 (28 + p1.toNatClampNeg) 0)).bind fun v16 => if v16 = 0 then (f106_42 s9 p1 p2) else (f106_43 s9 p1 p2 1) else none) else none) else (some ((.inl 0, s9))) else none)
theorem C106 {d ex : Nat} {s : g_S} {p1 : Int32} {p2 : Int32}  {z : (Int32 ⊕ Nat) × g_S} (hd : 17 < d) (H : f106 s p1 p2 = some z) : n_C X d 106 [.ref 0, .int p1, .int p2] (g_M s ex) (g_rTI z ex) := by
  obtain ⟨d, rfl⟩ : ∃ d1, d = d1 + 1 := ⟨d - 1, by omega⟩
  replace hd := Nat.le_of_lt_succ hd
  refine ⟨Nat.le_of_ble_eq_true rfl, ?_⟩
  rw [md_106]
  show n_R X (d + 1) 106 0 [some (.ref 0), some (.int p1), some (.int p2), none] [] (g_M s ex) _
  unfold f106 at H
  refine g_go 2 md_106 (i1 := 2) rfl ?_
  rcases g_tbp H with ⟨v1, s2, hv1, H⟩ | ⟨v1, s2, hv1, H⟩
  rotate_left
  · cases H
    refine n_callx (z := .inl none) (n_q md_106 rfl) (As := [.ref 0, .int p1]) (rest := []) rfl rfl (Nat.le_of_ble_eq_true rfl) rfl (g_recv (b := 0) rfl t_0 rfl) (C117 (by omega) hv1) rfl
  refine n_call (n_q md_106 rfl) (As := [.ref 0, .int p1]) (rest := []) rfl rfl (Nat.le_of_ble_eq_true rfl) rfl (g_recv (b := 0) rfl t_0 rfl) (C117 (by omega) hv1) ?_
  refine g_go 2 md_106 (i1 := 5) rfl ?_
  obtain ⟨v3, hv3, H⟩ := g_bind H
  refine n_callv (n_q md_106 rfl) (As := [.int p2, .int 9999]) (rest := []) rfl rfl (Nat.le_of_ble_eq_true rfl) rfl rfl (C118 (by omega) hv3) ?_
  rcases g_tbp H with ⟨v4, s5, hv4, H⟩ | ⟨v4, s5, hv4, H⟩
  rotate_left
  · cases H
    refine n_callx (z := .inl none) (n_q md_106 rfl) (As := [.int v3]) (rest := []) rfl rfl (Nat.le_of_ble_eq_true rfl) rfl rfl (C116 (by omega) hv4) rfl
  refine n_call (n_q md_106 rfl) (As := [.int v3]) (rest := []) rfl rfl (Nat.le_of_ble_eq_true rfl) rfl rfl (C116 (by omega) hv4) ?_
  refine g_go 1 md_106 (i1 := 8) rfl ?_
  refine g_getr 77 (n_q md_106 rfl) t_0 rfl ?_
  refine g_go 1 md_106 (i1 := 10) rfl ?_
  refine g_getr 22 (n_q md_106 rfl) t_0 rfl ?_
  refine g_go 1 md_106 (i1 := 12) rfl ?_
  obtain ⟨v6, hv6, H⟩ := g_bind H
  refine n_callv (n_q md_106 rfl) (As := [.ref 0]) (rest := [.ref 22, .ref 77]) rfl rfl (Nat.le_of_ble_eq_true rfl) rfl (g_recv (b := 0) rfl t_0 rfl) (C120 (by omega) hv6) ?_
  obtain ⟨h7, H⟩ := g_gd H
  obtain ⟨s9, hs9, H⟩ := g_bind H
  refine n_call (n_q md_106 rfl) (As := [.ref 77, .ref 22, .ref v6]) (rest := []) rfl rfl (Nat.le_of_ble_eq_true rfl) rfl (g_recv (b := 0) rfl t_77 rfl) (C10 t_22 h7 (by omega) hs9) ?_
  refine g_go 1 md_106 (i1 := 15) rfl ?_
  refine g_getr 77 (n_q md_106 rfl) t_0 rfl ?_
  refine g_go 1 md_106 (i1 := 17) rfl ?_
  refine g_getr 22 (n_q md_106 rfl) t_0 rfl ?_
  refine g_getf (n_q md_106 rfl) t_22 rfl ?_
  obtain ⟨v10, hv10, H⟩ := g_bind H
  refine n_callv (n_q md_106 rfl) (As := [.ref 77, .int (s9 22 2)]) (rest := []) rfl rfl (Nat.le_of_ble_eq_true rfl) rfl (g_recv (b := 0) rfl t_77 rfl) (C15 (by omega) hv10) ?_
  refine g_go 1 md_106 (i1 := 21) rfl ?_
  by_cases h11 : v10 = p1
  · rw [if_pos h11] at H
    refine n_cmpT (n_q md_106 rfl) (decide_eq_true h11) ?_
    refine g_go 1 md_106 (i1 := 25) rfl ?_
    refine g_getr 77 (n_q md_106 rfl) t_0 rfl ?_
    refine g_getr 82 (n_q md_106 rfl) t_77 rfl ?_
    refine g_go 1 md_106 (i1 := 28) rfl ?_
    obtain ⟨h12, H⟩ := g_gd H
    refine g_bald (n_q md_106 rfl) t_82 h12 ?_
    by_cases h13 : (s9 82 p1.toNatClampNeg) = 0
    · rw [if_pos h13] at H
      refine n_ifT (n_q md_106 rfl) (decide_eq_true h13) ?_
      exact P106_42 H hd
    · rw [if_neg h13] at H
      refine n_ifF (n_q md_106 rfl) (fun e1 => h13 (of_decide_eq_true e1)) ?_
      refine g_go 1 md_106 (i1 := 31) rfl ?_
      obtain ⟨v14, hv14, H⟩ := g_bind H
      refine n_callv (n_q md_106 rfl) (As := [.ref 0]) (rest := []) rfl rfl (Nat.le_of_ble_eq_true rfl) rfl (g_recv (b := 0) rfl t_0 rfl) (C120 (by omega) hv14) ?_
      obtain ⟨h15, H⟩ := g_gd H
      refine g_go 1 md_106 (i1 := 33) rfl ?_
      refine g_getr 22 (n_q md_106 rfl) t_0 rfl ?_
      refine g_getr 23 (n_q md_106 rfl) t_22 rfl ?_
      refine g_go 1 md_106 (i1 := 36) rfl ?_
      refine g_aald (n_q md_106 rfl) ta_23 (by decide) h12 (g_range (g_inlt h12)) ?_
      refine g_getf (n_q md_106 rfl) (te_6 t_22 (g_inlt h12)) rfl ?_
      obtain ⟨v16, hv16, H⟩ := g_bind H
      refine n_callv (n_q md_106 rfl) (As := [.ref v14, .int (s9 (28 + p1.toNatClampNeg) 0)]) (rest := []) rfl rfl (Nat.le_of_ble_eq_true rfl) rfl (g_recv (b := 0) rfl h15 rfl) (C38 h15 (by omega) hv16) ?_
      by_cases h17 : v16 = 0
      · rw [if_pos h17] at H
        refine n_ifT (n_q md_106 rfl) (decide_eq_true h17) ?_
        exact P106_42 H hd
      · rw [if_neg h17] at H
        refine n_ifF (n_q md_106 rfl) (fun e1 => h17 (of_decide_eq_true e1)) ?_
        refine g_go 2 md_106 (i1 := 43) rfl ?_
        exact P106_43 H hd
  · rw [if_neg h11] at H
    refine n_cmpF (n_q md_106 rfl) (fun e1 => h11 (of_decide_eq_true e1)) ?_
    refine g_go 1 md_106 (i1 := 23) rfl ?_
    cases H
    exact n_iret (n_q md_106 rfl) (Or.inl rfl)

theorem md_107 : m_md 107 = m_X7_put := rfl
noncomputable def f107_11 (s : g_S) (p1 : Int32) (p2 : Int32) (y0 : Int32) : Option ((Int32 ⊕ Nat) × g_S) := (g_tb (f116 s y0) fun _ s2 => g_bd (f18 s2 25 p1 p2) fun v3 s4 => if v3 = 0 then (some ((.inl ((-1)), s4))) else ((f19 s4 25).bind fun v6 => some ((.inl v6, s4))))
theorem P107_11 {d ex : Nat} {s : g_S} {p1 : Int32} {p2 : Int32} {y0 : Int32}   {z : ((Int32 ⊕ Nat) × g_S)} (H : f107_11 s p1 p2 y0 = some z) (hd : 13 ≤ d)  : n_R X (d + 1) 107 11 [some (.ref 0), some (.int p1), some (.int p2)] [.int y0] (g_M s ex) (g_rTI z ex) := by
  unfold f107_11 at H
  rcases g_tbp H with ⟨v1, s2, hv1, H⟩ | ⟨v1, s2, hv1, H⟩
  rotate_left
  · cases H
    refine n_callx (z := .inl none) (n_q md_107 rfl) (As := [.int y0]) (rest := []) rfl rfl (Nat.le_of_ble_eq_true rfl) rfl rfl (C116 (by omega) hv1) rfl
  refine n_call (n_q md_107 rfl) (As := [.int y0]) (rest := []) rfl rfl (Nat.le_of_ble_eq_true rfl) rfl rfl (C116 (by omega) hv1) ?_
  refine g_go 1 md_107 (i1 := 13) rfl ?_
  refine g_getr 22 (n_q md_107 rfl) t_0 rfl ?_
  refine g_getr 25 (n_q md_107 rfl) t_22 rfl ?_
  refine g_go 2 md_107 (i1 := 17) rfl ?_
  obtain ⟨v3, s4, hv3, H⟩ := g_bdp H
  refine n_callv (n_q md_107 rfl) (As := [.ref 25, .int p1, .int p2]) (rest := []) rfl rfl (Nat.le_of_ble_eq_true rfl) rfl (g_recv (b := 0) rfl t_25 rfl) (C18 t_25 (by omega) hv3) ?_
  by_cases h5 : v3 = 0
  · rw [if_pos h5] at H
    refine n_ifT (n_q md_107 rfl) (decide_eq_true h5) ?_
    refine g_go 1 md_107 (i1 := 25) rfl ?_
    cases H
    exact n_iret (n_q md_107 rfl) (Or.inl rfl)
  · rw [if_neg h5] at H
    refine n_ifF (n_q md_107 rfl) (fun e1 => h5 (of_decide_eq_true e1)) ?_
    refine g_go 1 md_107 (i1 := 20) rfl ?_
    refine g_getr 22 (n_q md_107 rfl) t_0 rfl ?_
    refine g_getr 25 (n_q md_107 rfl) t_22 rfl ?_
    obtain ⟨v6, hv6, H⟩ := g_bind H
    refine n_callv (n_q md_107 rfl) (As := [.ref 25]) (rest := []) rfl rfl (Nat.le_of_ble_eq_true rfl) rfl (g_recv (b := 0) rfl t_25 rfl) (C19 t_25 (by omega) hv6) ?_
    refine g_go 1 md_107 (i1 := 25) rfl ?_
    cases H
    exact n_iret (n_q md_107 rfl) (Or.inl rfl)
noncomputable def f107_10 (s : g_S) (p1 : Int32) (p2 : Int32) : Option ((Int32 ⊕ Nat) × g_S) := (f107_11 s p1 p2 0)
theorem P107_10 {d ex : Nat} {s : g_S} {p1 : Int32} {p2 : Int32}   {z : ((Int32 ⊕ Nat) × g_S)} (H : f107_10 s p1 p2 = some z) (hd : 13 ≤ d)  : n_R X (d + 1) 107 10 [some (.ref 0), some (.int p1), some (.int p2)] [] (g_M s ex) (g_rTI z ex) := by
  unfold f107_10 at H
  refine g_go 1 md_107 (i1 := 11) rfl ?_
  exact P107_11 H hd
noncomputable def f107 (s : g_S) (p1 : Int32) (p2 : Int32) : Option ((Int32 ⊕ Nat) × g_S) := ((f118 s p1 5).bind fun v1 => if v1 = 0 then (f107_10 s p1 p2) else ((f118 s p2 999).bind fun v3 => if v3 = 0 then (f107_10 s p1 p2) else (f107_11 s p1 p2 1)))
theorem C107 {d ex : Nat} {s : g_S} {p1 : Int32} {p2 : Int32}  {z : (Int32 ⊕ Nat) × g_S} (hd : 13 < d) (H : f107 s p1 p2 = some z) : n_C X d 107 [.ref 0, .int p1, .int p2] (g_M s ex) (g_rTI z ex) := by
  obtain ⟨d, rfl⟩ : ∃ d1, d = d1 + 1 := ⟨d - 1, by omega⟩
  replace hd := Nat.le_of_lt_succ hd
  refine ⟨Nat.le_of_ble_eq_true rfl, ?_⟩
  rw [md_107]
  show n_R X (d + 1) 107 0 [some (.ref 0), some (.int p1), some (.int p2)] [] (g_M s ex) _
  unfold f107 at H
  refine g_go 2 md_107 (i1 := 2) rfl ?_
  obtain ⟨v1, hv1, H⟩ := g_bind H
  refine n_callv (n_q md_107 rfl) (As := [.int p1, .int 5]) (rest := []) rfl rfl (Nat.le_of_ble_eq_true rfl) rfl rfl (C118 (by omega) hv1) ?_
  by_cases h2 : v1 = 0
  · rw [if_pos h2] at H
    refine n_ifT (n_q md_107 rfl) (decide_eq_true h2) ?_
    exact P107_10 H hd
  · rw [if_neg h2] at H
    refine n_ifF (n_q md_107 rfl) (fun e1 => h2 (of_decide_eq_true e1)) ?_
    refine g_go 2 md_107 (i1 := 6) rfl ?_
    obtain ⟨v3, hv3, H⟩ := g_bind H
    refine n_callv (n_q md_107 rfl) (As := [.int p2, .int 999]) (rest := []) rfl rfl (Nat.le_of_ble_eq_true rfl) rfl rfl (C118 (by omega) hv3) ?_
    by_cases h4 : v3 = 0
    · rw [if_pos h4] at H
      refine n_ifT (n_q md_107 rfl) (decide_eq_true h4) ?_
      exact P107_10 H hd
    · rw [if_neg h4] at H
      refine n_ifF (n_q md_107 rfl) (fun e1 => h4 (of_decide_eq_true e1)) ?_
      refine g_go 2 md_107 (i1 := 11) rfl ?_
      exact P107_11 H hd

theorem md_108 : m_md 108 = m_X7_share := rfl
noncomputable def f108_14 (s : g_S) (p1 : Int32) (p2 : Int32) (y0 : Int32) : Option ((Int32 ⊕ Nat) × g_S) := (g_tb (f116 s y0) fun _ s2 => (f120 s2).bind fun v3 => if g_lay v3 = o_4 v3 then if (s2 v3 0) = 0 then ((f20 s2 25 p1).bind fun v6 => some ((.inl (p2 * v6), s2))) else (if (s2 v3 0) = 1 then ((f19 s2 25).bind fun v7 => (f21 s2 25 p1 p2).bind fun v8 => some ((.inl (v7 * v8), s2))) else (some ((.inl 0, s2)))) else none)
theorem P108_14 {d ex : Nat} {s : g_S} {p1 : Int32} {p2 : Int32} {y0 : Int32} {u3 : Option Value}   {z : ((Int32 ⊕ Nat) × g_S)} (H : f108_14 s p1 p2 y0 = some z) (hd : 15 ≤ d)  : n_R X (d + 1) 108 14 [some (.ref 0), some (.int p1), some (.int p2), u3] [.int y0] (g_M s ex) (g_rTI z ex) := by
  unfold f108_14 at H
  rcases g_tbp H with ⟨v1, s2, hv1, H⟩ | ⟨v1, s2, hv1, H⟩
  rotate_left
  · cases H
    refine n_callx (z := .inl none) (n_q md_108 rfl) (As := [.int y0]) (rest := []) rfl rfl (Nat.le_of_ble_eq_true rfl) rfl rfl (C116 (by omega) hv1) rfl
  refine n_call (n_q md_108 rfl) (As := [.int y0]) (rest := []) rfl rfl (Nat.le_of_ble_eq_true rfl) rfl rfl (C116 (by omega) hv1) ?_
  refine g_go 1 md_108 (i1 := 16) rfl ?_
  obtain ⟨v3, hv3, H⟩ := g_bind H
  refine n_callv (n_q md_108 rfl) (As := [.ref 0]) (rest := []) rfl rfl (Nat.le_of_ble_eq_true rfl) rfl (g_recv (b := 0) rfl t_0 rfl) (C120 (by omega) hv3) ?_
  obtain ⟨h4, H⟩ := g_gd H
  refine g_getf (n_q md_108 rfl) h4 rfl ?_
  refine g_go 2 md_108 (i1 := 20) (ls1 := [some (.ref 0), some (.int p1), some (.int p2), some (.int (s2 v3 0))]) rfl ?_
  by_cases h5 : (s2 v3 0) = 0
  · rw [if_pos h5] at H
    refine n_ifF (n_q md_108 rfl) (fun e1 => of_decide_eq_true e1 h5) ?_
    refine g_go 2 md_108 (i1 := 23) rfl ?_
    refine g_getr 22 (n_q md_108 rfl) t_0 rfl ?_
    refine g_getr 25 (n_q md_108 rfl) t_22 rfl ?_
    refine g_go 1 md_108 (i1 := 26) rfl ?_
    obtain ⟨v6, hv6, H⟩ := g_bind H
    refine n_callv (n_q md_108 rfl) (As := [.ref 25, .int p1]) (rest := [.int p2]) rfl rfl (Nat.le_of_ble_eq_true rfl) rfl (g_recv (b := 0) rfl t_25 rfl) (C20 t_25 (by omega) hv6) ?_
    refine g_go 1 md_108 (i1 := 28) rfl ?_
    cases H
    exact n_iret (n_q md_108 rfl) (Or.inl rfl)
  · rw [if_neg h5] at H
    refine n_ifT (n_q md_108 rfl) (decide_eq_true h5) ?_
    refine g_go 2 md_108 (i1 := 31) rfl ?_
    by_cases h6 : (s2 v3 0) = 1
    · rw [if_pos h6] at H
      refine n_cmpF (n_q md_108 rfl) (fun e1 => of_decide_eq_true e1 h6) ?_
      refine g_go 1 md_108 (i1 := 33) rfl ?_
      refine g_getr 22 (n_q md_108 rfl) t_0 rfl ?_
      refine g_getr 25 (n_q md_108 rfl) t_22 rfl ?_
      obtain ⟨v7, hv7, H⟩ := g_bind H
      refine n_callv (n_q md_108 rfl) (As := [.ref 25]) (rest := []) rfl rfl (Nat.le_of_ble_eq_true rfl) rfl (g_recv (b := 0) rfl t_25 rfl) (C19 t_25 (by omega) hv7) ?_
      refine g_go 1 md_108 (i1 := 37) rfl ?_
      refine g_getr 22 (n_q md_108 rfl) t_0 rfl ?_
      refine g_getr 25 (n_q md_108 rfl) t_22 rfl ?_
      refine g_go 2 md_108 (i1 := 41) rfl ?_
      obtain ⟨v8, hv8, H⟩ := g_bind H
      refine n_callv (n_q md_108 rfl) (As := [.ref 25, .int p1, .int p2]) (rest := [.int v7]) rfl rfl (Nat.le_of_ble_eq_true rfl) rfl (g_recv (b := 0) rfl t_25 rfl) (C21 t_25 (by omega) hv8) ?_
      refine g_go 2 md_108 (i1 := 45) rfl ?_
      cases H
      exact n_iret (n_q md_108 rfl) (Or.inl rfl)
    · rw [if_neg h6] at H
      refine n_cmpT (n_q md_108 rfl) (decide_eq_true h6) ?_
      refine g_go 1 md_108 (i1 := 45) rfl ?_
      cases H
      exact n_iret (n_q md_108 rfl) (Or.inl rfl)
noncomputable def f108_13 (s : g_S) (p1 : Int32) (p2 : Int32) : Option ((Int32 ⊕ Nat) × g_S) := (f108_14 s p1 p2 0)
theorem P108_13 {d ex : Nat} {s : g_S} {p1 : Int32} {p2 : Int32} {u3 : Option Value}   {z : ((Int32 ⊕ Nat) × g_S)} (H : f108_13 s p1 p2 = some z) (hd : 15 ≤ d)  : n_R X (d + 1) 108 13 [some (.ref 0), some (.int p1), some (.int p2), u3] [] (g_M s ex) (g_rTI z ex) := by
  unfold f108_13 at H
  refine g_go 1 md_108 (i1 := 14) rfl ?_
  exact P108_14 H hd
noncomputable def f108 (s : g_S) (p1 : Int32) (p2 : Int32) : Option ((Int32 ⊕ Nat) × g_S) := ((f118 s p1 5).bind fun v1 => if v1 = 0 then (f108_13 s p1 p2) else ((f19 s 25).bind fun v3 => (f118 s p2 v3).bind fun v4 => if v4 = 0 then (f108_13 s p1 p2) else (f108_14 s p1 p2 1)))
theorem C108 {d ex : Nat} {s : g_S} {p1 : Int32} {p2 : Int32}  {z : (Int32 ⊕ Nat) × g_S} (hd : 15 < d) (H : f108 s p1 p2 = some z) : n_C X d 108 [.ref 0, .int p1, .int p2] (g_M s ex) (g_rTI z ex) := by
  obtain ⟨d, rfl⟩ : ∃ d1, d = d1 + 1 := ⟨d - 1, by omega⟩
  replace hd := Nat.le_of_lt_succ hd
  refine ⟨Nat.le_of_ble_eq_true rfl, ?_⟩
  rw [md_108]
  show n_R X (d + 1) 108 0 [some (.ref 0), some (.int p1), some (.int p2), none] [] (g_M s ex) _
  unfold f108 at H
  refine g_go 2 md_108 (i1 := 2) rfl ?_
  obtain ⟨v1, hv1, H⟩ := g_bind H
  refine n_callv (n_q md_108 rfl) (As := [.int p1, .int 5]) (rest := []) rfl rfl (Nat.le_of_ble_eq_true rfl) rfl rfl (C118 (by omega) hv1) ?_
  by_cases h2 : v1 = 0
  · rw [if_pos h2] at H
    refine n_ifT (n_q md_108 rfl) (decide_eq_true h2) ?_
    exact P108_13 H hd
  · rw [if_neg h2] at H
    refine n_ifF (n_q md_108 rfl) (fun e1 => h2 (of_decide_eq_true e1)) ?_
    refine g_go 2 md_108 (i1 := 6) rfl ?_
    refine g_getr 22 (n_q md_108 rfl) t_0 rfl ?_
    refine g_getr 25 (n_q md_108 rfl) t_22 rfl ?_
    obtain ⟨v3, hv3, H⟩ := g_bind H
    refine n_callv (n_q md_108 rfl) (As := [.ref 25]) (rest := [.int p2]) rfl rfl (Nat.le_of_ble_eq_true rfl) rfl (g_recv (b := 0) rfl t_25 rfl) (C19 t_25 (by omega) hv3) ?_
    obtain ⟨v4, hv4, H⟩ := g_bind H
    refine n_callv (n_q md_108 rfl) (As := [.int p2, .int v3]) (rest := []) rfl rfl (Nat.le_of_ble_eq_true rfl) rfl rfl (C118 (by omega) hv4) ?_
    by_cases h5 : v4 = 0
    · rw [if_pos h5] at H
      refine n_ifT (n_q md_108 rfl) (decide_eq_true h5) ?_
      exact P108_13 H hd
    · rw [if_neg h5] at H
      refine n_ifF (n_q md_108 rfl) (fun e1 => h5 (of_decide_eq_true e1)) ?_
      refine g_go 2 md_108 (i1 := 14) rfl ?_
      exact P108_14 H hd

end K4
