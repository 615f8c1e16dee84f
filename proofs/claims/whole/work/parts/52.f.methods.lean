/-! METHODS, written by wip/whole/gen_51.py (5). -/
section K5
variable {X : m_X}
theorem md_109 : m_md 109 = m_X7_judge := rfl
noncomputable def f109 (s : g_S) (p1 : Int32) (p2 : Int32) : Option ((Int32 ⊕ Nat) × g_S) := (g_tb (f117 s p1) fun _ s2 => (f118 s2 p2 9999).bind fun v3 => g_tb (f116 s2 v3) fun _ s5 => if m_in p1 13 = true then g_let (g_w s5 (28 + p1.toNatClampNeg) 6 p2) fun s7 => some ((.inl (s5 (28 + p1.toNatClampNeg) 6), s7)) else none)
theorem C109 {d ex : Nat} {s : g_S} {p1 : Int32} {p2 : Int32}  {z : (Int32 ⊕ Nat) × g_S} (hd : 14 < d) (H : f109 s p1 p2 = some z) : n_C X d 109 [.ref 0, .int p1, .int p2] (g_M s ex) (g_rTI z ex) := by
  obtain ⟨d, rfl⟩ : ∃ d1, d = d1 + 1 := ⟨d - 1, by omega⟩
  replace hd := Nat.le_of_lt_succ hd
  refine ⟨Nat.le_of_ble_eq_true rfl, ?_⟩
  rw [md_109]
  show n_R X (d + 1) 109 0 [some (.ref 0), some (.int p1), some (.int p2), none] [] (g_M s ex) _
  unfold f109 at H
  refine g_go 2 md_109 (i1 := 2) rfl ?_
  rcases g_tbp H with ⟨v1, s2, hv1, H⟩ | ⟨v1, s2, hv1, H⟩
  rotate_left
  · cases H
    refine n_callx (z := .inl none) (n_q md_109 rfl) (As := [.ref 0, .int p1]) (rest := []) rfl rfl (Nat.le_of_ble_eq_true rfl) rfl (g_recv (b := 0) rfl t_0 rfl) (C117 (by omega) hv1) rfl
  refine n_call (n_q md_109 rfl) (As := [.ref 0, .int p1]) (rest := []) rfl rfl (Nat.le_of_ble_eq_true rfl) rfl (g_recv (b := 0) rfl t_0 rfl) (C117 (by omega) hv1) ?_
  refine g_go 2 md_109 (i1 := 5) rfl ?_
  obtain ⟨v3, hv3, H⟩ := g_bind H
  refine n_callv (n_q md_109 rfl) (As := [.int p2, .int 9999]) (rest := []) rfl rfl (Nat.le_of_ble_eq_true rfl) rfl rfl (C118 (by omega) hv3) ?_
  rcases g_tbp H with ⟨v4, s5, hv4, H⟩ | ⟨v4, s5, hv4, H⟩
  rotate_left
  · cases H
    refine n_callx (z := .inl none) (n_q md_109 rfl) (As := [.int v3]) (rest := []) rfl rfl (Nat.le_of_ble_eq_true rfl) rfl rfl (C116 (by omega) hv4) rfl
  refine n_call (n_q md_109 rfl) (As := [.int v3]) (rest := []) rfl rfl (Nat.le_of_ble_eq_true rfl) rfl rfl (C116 (by omega) hv4) ?_
  refine g_go 1 md_109 (i1 := 8) rfl ?_
  refine g_getr 22 (n_q md_109 rfl) t_0 rfl ?_
  refine g_getr 23 (n_q md_109 rfl) t_22 rfl ?_
  refine g_go 1 md_109 (i1 := 11) rfl ?_
  obtain ⟨h6, H⟩ := g_gd H
  refine g_aald (n_q md_109 rfl) ta_23 (by decide) h6 (g_range (g_inlt h6)) ?_
  refine g_getf (n_q md_109 rfl) (te_6 t_22 (g_inlt h6)) rfl ?_
  refine g_go 2 md_109 (i1 := 15) (ls1 := [some (.ref 0), some (.int p1), some (.int p2), some (.int (s5 (28 + p1.toNatClampNeg) 6))]) rfl ?_
  refine g_getr 22 (n_q md_109 rfl) t_0 rfl ?_
  refine g_getr 23 (n_q md_109 rfl) t_22 rfl ?_
  refine g_go 1 md_109 (i1 := 18) rfl ?_
  refine g_aald (n_q md_109 rfl) ta_23 (by decide) h6 (g_range (g_inlt h6)) ?_
  refine g_go 1 md_109 (i1 := 20) rfl ?_
  obtain ⟨s7, es7, H⟩ := g_letp H
  refine g_putf (n_q md_109 rfl) (te_6 t_22 (g_inlt h6)) rfl rfl es7 ?_
  refine g_go 1 md_109 (i1 := 22) rfl ?_
  cases H
  exact n_iret (n_q md_109 rfl) (Or.inl rfl)

theorem md_110 : m_md 110 = m_X7_wrong := rfl
noncomputable def f110_9 (s : g_S) (x1 : Int32) : Option ((Int32) ⊕ (Int32 × g_S)) := (if x1 < (s 22 1) then (if m_in x1 13 = true then if (s (28 + x1.toNatClampNeg) 6) = (s 78 x1.toNatClampNeg) then (some (.inl (x1 + 1))) else (some (.inr ((x1, s)))) else none) else (some (.inr (((-1), s)))))
theorem P110_9 {d ex : Nat} {rr : m_R} {s : g_S} {x1 : Int32}   {z : ((Int32) ⊕ (Int32 × g_S))} (H : f110_9 s x1 = some z) (hd : 17 ≤ d) (K0 : ∀ S : Int32, z = .inl S → n_R X (d + 1) 110 9 [some (.ref 0), some (.int S)] [] (g_M s ex) rr) (Kr : ∀ q, z = .inr (q) → g_rSI q ex = rr) : n_R X (d + 1) 110 9 [some (.ref 0), some (.int x1)] [] (g_M s ex) rr := by
  unfold f110_9 at H
  refine g_go 2 md_110 (i1 := 11) rfl ?_
  refine g_getr 22 (n_q md_110 rfl) t_0 rfl ?_
  refine g_getf (n_q md_110 rfl) t_22 rfl ?_
  by_cases h1 : x1 < (s 22 1)
  · rw [if_pos h1] at H
    refine n_cmpF (n_q md_110 rfl) (fun e1 => absurd (of_decide_eq_true e1) (Int32.not_le.mpr h1)) ?_
    refine g_go 1 md_110 (i1 := 15) rfl ?_
    refine g_getr 22 (n_q md_110 rfl) t_0 rfl ?_
    refine g_getr 23 (n_q md_110 rfl) t_22 rfl ?_
    refine g_go 1 md_110 (i1 := 18) rfl ?_
    obtain ⟨h2, H⟩ := g_gd H
    refine g_aald (n_q md_110 rfl) ta_23 (by decide) h2 (g_range (g_inlt h2)) ?_
    refine g_getf (n_q md_110 rfl) (te_6 t_22 (g_inlt h2)) rfl ?_
    refine g_go 1 md_110 (i1 := 21) rfl ?_
    refine g_getr 77 (n_q md_110 rfl) t_0 rfl ?_
    refine g_getr 78 (n_q md_110 rfl) t_77 rfl ?_
    refine g_go 1 md_110 (i1 := 24) rfl ?_
    refine g_iald (n_q md_110 rfl) t_78 h2 ?_
    by_cases h3 : (s (28 + x1.toNatClampNeg) 6) = (s 78 x1.toNatClampNeg)
    · rw [if_pos h3] at H
      refine n_cmpT (n_q md_110 rfl) (decide_eq_true h3) ?_
      refine g_go 2 md_110 (i1 := 9) (ls1 := [some (.ref 0), some (.int (x1 + 1))]) rfl ?_
      cases H
      exact K0 (x1 + 1) rfl
    · rw [if_neg h3] at H
      refine n_cmpF (n_q md_110 rfl) (fun e1 => h3 (of_decide_eq_true e1)) ?_
      refine g_go 1 md_110 (i1 := 27) rfl ?_
      cases H
      rw [← Kr _ rfl]
      exact n_iret (n_q md_110 rfl) (Or.inl rfl)
  · rw [if_neg h1] at H
    refine n_cmpT (n_q md_110 rfl) (decide_eq_true (Int32.not_lt.mp h1)) ?_
    refine g_go 1 md_110 (i1 := 31) rfl ?_
    cases H
    rw [← Kr _ rfl]
    exact n_iret (n_q md_110 rfl) (Or.inl rfl)
noncomputable def f110_9L (s : g_S) (x1 : Int32) : Option (Int32 × g_S) := g_run (fun S : Int32 => f110_9 s S) x1
theorem f110_9L_eq (s : g_S) (x1 : Int32) : f110_9L s x1 = g_st (f110_9 s x1) (fun S => f110_9L s S) := by
  unfold f110_9L
  exact g_run_eq _ _
theorem P110_9L {d ex : Nat} {s : g_S} {x1 : Int32}   {z : (Int32 × g_S)} (H : f110_9L s x1 = some z) (hd : 17 ≤ d)  : n_R X (d + 1) 110 9 [some (.ref 0), some (.int x1)] [] (g_M s ex) (g_rSI z ex) := by
  unfold f110_9L at H
  refine g_rs (Q := fun S => n_R X (d + 1) 110 9 [some (.ref 0), some (.int S)] [] (g_M s ex) (g_rSI z ex)) H ?_
  intro S w hb K0 KK
  refine P110_9 hb hd ?_ ?_
  · exact fun S1 e1 => K0 S1 e1
  · exact fun q e1 => by rw [KK q e1]
noncomputable def f110 (s : g_S) : Option (Int32 × g_S) := ((f120 s).bind fun v1 => if g_lay v1 = o_4 v1 then (f10 s 22 v1).bind fun s4 => f110_9L s4 1 else none)
theorem C110 {d ex : Nat} {s : g_S}  {z : Int32 × g_S} (hd : 17 < d) (H : f110 s = some z) : n_C X d 110 [.ref 0] (g_M s ex) (g_rSI z ex) := by
  obtain ⟨d, rfl⟩ : ∃ d1, d = d1 + 1 := ⟨d - 1, by omega⟩
  replace hd := Nat.le_of_lt_succ hd
  refine ⟨Nat.le_of_ble_eq_true rfl, ?_⟩
  rw [md_110]
  show n_R X (d + 1) 110 0 [some (.ref 0), none] [] (g_M s ex) _
  unfold f110 at H
  refine g_go 1 md_110 (i1 := 1) rfl ?_
  refine g_getr 77 (n_q md_110 rfl) t_0 rfl ?_
  refine g_go 1 md_110 (i1 := 3) rfl ?_
  refine g_getr 22 (n_q md_110 rfl) t_0 rfl ?_
  refine g_go 1 md_110 (i1 := 5) rfl ?_
  obtain ⟨v1, hv1, H⟩ := g_bind H
  refine n_callv (n_q md_110 rfl) (As := [.ref 0]) (rest := [.ref 22, .ref 77]) rfl rfl (Nat.le_of_ble_eq_true rfl) rfl (g_recv (b := 0) rfl t_0 rfl) (C120 (by omega) hv1) ?_
  obtain ⟨h2, H⟩ := g_gd H
  obtain ⟨s4, hs4, H⟩ := g_bind H
  refine n_call (n_q md_110 rfl) (As := [.ref 77, .ref 22, .ref v1]) (rest := []) rfl rfl (Nat.le_of_ble_eq_true rfl) rfl (g_recv (b := 0) rfl t_77 rfl) (C10 t_22 h2 (by omega) hs4) ?_
  refine g_go 2 md_110 (i1 := 9) (ls1 := [some (.ref 0), some (.int 1)]) rfl ?_
  exact P110_9L H hd

theorem md_111 : m_md 111 = m_X7_parting := rfl
noncomputable def f111_14 (s : g_S) (p1 : Int32) (p2 : Int32) (x3 : Int32) : Option ((Int32 × g_S) ⊕ ((Int32 ⊕ Nat) × g_S)) := (if x3 < 1152 then ((f124 s x3 0 100 10).bind fun s3 => (f122 s3 x3).bind fun v4 => (f123 s3 x3).bind fun v5 => if m_in p1 4 = true then g_bd (f36 s3 (86 + 8 * p1.toNatClampNeg) v4 v5 21) fun v7 s8 => if m_in p2 4 = true then g_bd (f36 s8 (86 + 8 * p2.toNatClampNeg) v4 v5 21) fun v10 s11 => if v7 = v10 then (some (.inl (x3 + 1, s11))) else (some (.inr ((.inl x3, s11)))) else none else none) else (some (.inr ((.inl ((-1)), s)))))
theorem P111_14 {d ex : Nat} {rr : m_R} {s : g_S} {p1 : Int32} {p2 : Int32} {x3 : Int32} {u4 u5 : Option Value}   {z : ((Int32 × g_S) ⊕ ((Int32 ⊕ Nat) × g_S))} (H : f111_14 s p1 p2 x3 = some z) (hd : 16 ≤ d) (K0 : ∀ S : Int32 × g_S, z = .inl S → ∀ u4 u5 : Option Value, n_R X (d + 1) 111 14 [some (.ref 0), some (.int p1), some (.int p2), some (.int S.1), u4, u5] [] (g_M S.2 ex) rr) (Kr : ∀ q, z = .inr (q) → g_rTI q ex = rr) : n_R X (d + 1) 111 14 [some (.ref 0), some (.int p1), some (.int p2), some (.int x3), u4, u5] [] (g_M s ex) rr := by
  unfold f111_14 at H
  refine g_go 2 md_111 (i1 := 16) rfl ?_
  by_cases h1 : x3 < 1152
  · rw [if_pos h1] at H
    refine n_cmpF (n_q md_111 rfl) (fun e1 => absurd (of_decide_eq_true e1) (Int32.not_le.mpr h1)) ?_
    refine g_go 5 md_111 (i1 := 22) rfl ?_
    obtain ⟨s3, hs3, H⟩ := g_bind H
    refine n_call (n_q md_111 rfl) (As := [.ref 0, .int x3, .int 0, .int 100, .int 10]) (rest := []) rfl rfl (Nat.le_of_ble_eq_true rfl) rfl (g_recv (b := 0) rfl t_0 rfl) (C124 (by omega) hs3) ?_
    refine g_go 1 md_111 (i1 := 24) rfl ?_
    obtain ⟨v4, hv4, H⟩ := g_bind H
    refine n_callv (n_q md_111 rfl) (As := [.int x3]) (rest := []) rfl rfl (Nat.le_of_ble_eq_true rfl) rfl rfl (C122 (by omega) hv4) ?_
    refine g_go 2 md_111 (i1 := 27) (ls1 := [some (.ref 0), some (.int p1), some (.int p2), some (.int x3), some (.int v4), u5]) rfl ?_
    obtain ⟨v5, hv5, H⟩ := g_bind H
    refine n_callv (n_q md_111 rfl) (As := [.int x3]) (rest := []) rfl rfl (Nat.le_of_ble_eq_true rfl) rfl rfl (C123 (by omega) hv5) ?_
    refine g_go 2 md_111 (i1 := 30) (ls1 := [some (.ref 0), some (.int p1), some (.int p2), some (.int x3), some (.int v4), some (.int v5)]) rfl ?_
    refine g_getr 2 (n_q md_111 rfl) t_0 rfl ?_
    refine g_go 1 md_111 (i1 := 32) rfl ?_
    obtain ⟨h6, H⟩ := g_gd H
    refine g_aald (n_q md_111 rfl) ta_2 (by decide) h6 (g_range (g_inlt h6)) ?_
    refine g_go 3 md_111 (i1 := 36) rfl ?_
    refine g_getr 21 (n_q md_111 rfl) t_0 rfl ?_
    obtain ⟨v7, s8, hv7, H⟩ := g_bdp H
    refine n_callv (n_q md_111 rfl) (As := [.ref (86 + 8 * p1.toNatClampNeg), .int v4, .int v5, .ref 21]) (rest := []) rfl rfl (Nat.le_of_ble_eq_true rfl) rfl (g_recv (b := 0) rfl (te_5 (g_inlt h6)) rfl) (C36 (te_5 (g_inlt h6)) t_21 (by omega) hv7) ?_
    refine g_go 1 md_111 (i1 := 39) rfl ?_
    refine g_getr 2 (n_q md_111 rfl) t_0 rfl ?_
    refine g_go 1 md_111 (i1 := 41) rfl ?_
    obtain ⟨h9, H⟩ := g_gd H
    refine g_aald (n_q md_111 rfl) ta_2 (by decide) h9 (g_range (g_inlt h9)) ?_
    refine g_go 3 md_111 (i1 := 45) rfl ?_
    refine g_getr 21 (n_q md_111 rfl) t_0 rfl ?_
    obtain ⟨v10, s11, hv10, H⟩ := g_bdp H
    refine n_callv (n_q md_111 rfl) (As := [.ref (86 + 8 * p2.toNatClampNeg), .int v4, .int v5, .ref 21]) (rest := [.int v7]) rfl rfl (Nat.le_of_ble_eq_true rfl) rfl (g_recv (b := 0) rfl (te_5 (g_inlt h9)) rfl) (C36 (te_5 (g_inlt h9)) t_21 (by omega) hv10) ?_
    by_cases h12 : v7 = v10
    · rw [if_pos h12] at H
      refine n_cmpT (n_q md_111 rfl) (decide_eq_true h12) ?_
      refine g_go 2 md_111 (i1 := 14) (ls1 := [some (.ref 0), some (.int p1), some (.int p2), some (.int (x3 + 1)), some (.int v4), some (.int v5)]) rfl ?_
      cases H
      exact K0 (x3 + 1, s11) rfl _ _
    · rw [if_neg h12] at H
      refine n_cmpF (n_q md_111 rfl) (fun e1 => h12 (of_decide_eq_true e1)) ?_
      refine g_go 1 md_111 (i1 := 49) rfl ?_
      cases H
      rw [← Kr _ rfl]
      exact n_iret (n_q md_111 rfl) (Or.inl rfl)
  · rw [if_neg h1] at H
    refine n_cmpT (n_q md_111 rfl) (decide_eq_true (Int32.not_lt.mp h1)) ?_
    refine g_go 1 md_111 (i1 := 53) rfl ?_
    cases H
    rw [← Kr _ rfl]
    exact n_iret (n_q md_111 rfl) (Or.inl rfl)
noncomputable def f111_14L (s : g_S) (p1 : Int32) (p2 : Int32) (x3 : Int32) : Option ((Int32 ⊕ Nat) × g_S) := g_run (fun S : Int32 × g_S => f111_14 S.2 p1 p2 S.1) (x3, s)
theorem f111_14L_eq (s : g_S) (p1 : Int32) (p2 : Int32) (x3 : Int32) : f111_14L s p1 p2 x3 = g_st (f111_14 s p1 p2 x3) (fun S => f111_14L S.2 p1 p2 S.1) := by
  unfold f111_14L
  exact g_run_eq _ _
theorem P111_14L {d ex : Nat} {s : g_S} {p1 : Int32} {p2 : Int32} {x3 : Int32} {u4 u5 : Option Value}   {z : ((Int32 ⊕ Nat) × g_S)} (H : f111_14L s p1 p2 x3 = some z) (hd : 16 ≤ d)  : n_R X (d + 1) 111 14 [some (.ref 0), some (.int p1), some (.int p2), some (.int x3), u4, u5] [] (g_M s ex) (g_rTI z ex) := by
  unfold f111_14L at H
  refine g_rs (Q := fun S => ∀ u4 u5 : Option Value, n_R X (d + 1) 111 14 [some (.ref 0), some (.int p1), some (.int p2), some (.int S.1), u4, u5] [] (g_M S.2 ex) (g_rTI z ex)) H ?_ u4 u5
  intro S w hb K0 KK u4 u5
  refine P111_14 hb hd ?_ ?_
  · exact fun S1 e1 => K0 S1 e1
  · exact fun q e1 => by rw [KK q e1]
noncomputable def f111_11 (s : g_S) (p1 : Int32) (p2 : Int32) (y0 : Int32) : Option ((Int32 ⊕ Nat) × g_S) := (g_tb (f116 s y0) fun _ s2 => f111_14L s2 p1 p2 0)
theorem P111_11 {d ex : Nat} {s : g_S} {p1 : Int32} {p2 : Int32} {y0 : Int32} {u3 u4 u5 : Option Value}   {z : ((Int32 ⊕ Nat) × g_S)} (H : f111_11 s p1 p2 y0 = some z) (hd : 16 ≤ d)  : n_R X (d + 1) 111 11 [some (.ref 0), some (.int p1), some (.int p2), u3, u4, u5] [.int y0] (g_M s ex) (g_rTI z ex) := by
  unfold f111_11 at H
  rcases g_tbp H with ⟨v1, s2, hv1, H⟩ | ⟨v1, s2, hv1, H⟩
  rotate_left
  · cases H
    refine n_callx (z := .inl none) (n_q md_111 rfl) (As := [.int y0]) (rest := []) rfl rfl (Nat.le_of_ble_eq_true rfl) rfl rfl (C116 (by omega) hv1) rfl
  refine n_call (n_q md_111 rfl) (As := [.int y0]) (rest := []) rfl rfl (Nat.le_of_ble_eq_true rfl) rfl rfl (C116 (by omega) hv1) ?_
  refine g_go 2 md_111 (i1 := 14) (ls1 := [some (.ref 0), some (.int p1), some (.int p2), some (.int 0), u4, u5]) rfl ?_
  exact P111_14L H hd
noncomputable def f111_10 (s : g_S) (p1 : Int32) (p2 : Int32) : Option ((Int32 ⊕ Nat) × g_S) := (f111_11 s p1 p2 0)
theorem P111_10 {d ex : Nat} {s : g_S} {p1 : Int32} {p2 : Int32} {u3 u4 u5 : Option Value}   {z : ((Int32 ⊕ Nat) × g_S)} (H : f111_10 s p1 p2 = some z) (hd : 16 ≤ d)  : n_R X (d + 1) 111 10 [some (.ref 0), some (.int p1), some (.int p2), u3, u4, u5] [] (g_M s ex) (g_rTI z ex) := by
  unfold f111_10 at H
  refine g_go 1 md_111 (i1 := 11) rfl ?_
  exact P111_11 H hd
noncomputable def f111 (s : g_S) (p1 : Int32) (p2 : Int32) : Option ((Int32 ⊕ Nat) × g_S) := ((f119 s p1).bind fun v1 => if v1 = 0 then (f111_10 s p1 p2) else ((f119 s p2).bind fun v3 => if v3 = 0 then (f111_10 s p1 p2) else (f111_11 s p1 p2 1)))
theorem C111 {d ex : Nat} {s : g_S} {p1 : Int32} {p2 : Int32}  {z : (Int32 ⊕ Nat) × g_S} (hd : 16 < d) (H : f111 s p1 p2 = some z) : n_C X d 111 [.ref 0, .int p1, .int p2] (g_M s ex) (g_rTI z ex) := by
  obtain ⟨d, rfl⟩ : ∃ d1, d = d1 + 1 := ⟨d - 1, by omega⟩
  replace hd := Nat.le_of_lt_succ hd
  refine ⟨Nat.le_of_ble_eq_true rfl, ?_⟩
  rw [md_111]
  show n_R X (d + 1) 111 0 [some (.ref 0), some (.int p1), some (.int p2), none, none, none] [] (g_M s ex) _
  unfold f111 at H
  refine g_go 2 md_111 (i1 := 2) rfl ?_
  obtain ⟨v1, hv1, H⟩ := g_bind H
  refine n_callv (n_q md_111 rfl) (As := [.ref 0, .int p1]) (rest := []) rfl rfl (Nat.le_of_ble_eq_true rfl) rfl (g_recv (b := 0) rfl t_0 rfl) (C119 (by omega) hv1) ?_
  by_cases h2 : v1 = 0
  · rw [if_pos h2] at H
    refine n_ifT (n_q md_111 rfl) (decide_eq_true h2) ?_
    exact P111_10 H hd
  · rw [if_neg h2] at H
    refine n_ifF (n_q md_111 rfl) (fun e1 => h2 (of_decide_eq_true e1)) ?_
    refine g_go 2 md_111 (i1 := 6) rfl ?_
    obtain ⟨v3, hv3, H⟩ := g_bind H
    refine n_callv (n_q md_111 rfl) (As := [.ref 0, .int p2]) (rest := []) rfl rfl (Nat.le_of_ble_eq_true rfl) rfl (g_recv (b := 0) rfl t_0 rfl) (C119 (by omega) hv3) ?_
    by_cases h4 : v3 = 0
    · rw [if_pos h4] at H
      refine n_ifT (n_q md_111 rfl) (decide_eq_true h4) ?_
      exact P111_10 H hd
    · rw [if_neg h4] at H
      refine n_ifF (n_q md_111 rfl) (fun e1 => h4 (of_decide_eq_true e1)) ?_
      refine g_go 2 md_111 (i1 := 11) rfl ?_
      exact P111_11 H hd

theorem md_112 : m_md 112 = m_X7_beside := rfl
noncomputable def f112 (s : g_S) (p1 : Int32) (p2 : Int32) : Option ((Int32 ⊕ Nat) × g_S) := (g_tb (f117 s p2) fun _ s2 => (f119 s2 p1).bind fun v3 => g_tb (f116 s2 v3) fun _ s5 => if m_in p1 4 = true then (f10 s5 22 (86 + 8 * p1.toNatClampNeg)).bind fun s8 => if m_in p2 13 = true then some ((.inl (s8 81 p2.toNatClampNeg), s8)) else none else none)
theorem C112 {d ex : Nat} {s : g_S} {p1 : Int32} {p2 : Int32}  {z : (Int32 ⊕ Nat) × g_S} (hd : 17 < d) (H : f112 s p1 p2 = some z) : n_C X d 112 [.ref 0, .int p1, .int p2] (g_M s ex) (g_rTI z ex) := by
  obtain ⟨d, rfl⟩ : ∃ d1, d = d1 + 1 := ⟨d - 1, by omega⟩
  replace hd := Nat.le_of_lt_succ hd
  refine ⟨Nat.le_of_ble_eq_true rfl, ?_⟩
  rw [md_112]
  show n_R X (d + 1) 112 0 [some (.ref 0), some (.int p1), some (.int p2)] [] (g_M s ex) _
  unfold f112 at H
  refine g_go 2 md_112 (i1 := 2) rfl ?_
  rcases g_tbp H with ⟨v1, s2, hv1, H⟩ | ⟨v1, s2, hv1, H⟩
  rotate_left
  · cases H
    refine n_callx (z := .inl none) (n_q md_112 rfl) (As := [.ref 0, .int p2]) (rest := []) rfl rfl (Nat.le_of_ble_eq_true rfl) rfl (g_recv (b := 0) rfl t_0 rfl) (C117 (by omega) hv1) rfl
  refine n_call (n_q md_112 rfl) (As := [.ref 0, .int p2]) (rest := []) rfl rfl (Nat.le_of_ble_eq_true rfl) rfl (g_recv (b := 0) rfl t_0 rfl) (C117 (by omega) hv1) ?_
  refine g_go 2 md_112 (i1 := 5) rfl ?_
  obtain ⟨v3, hv3, H⟩ := g_bind H
  refine n_callv (n_q md_112 rfl) (As := [.ref 0, .int p1]) (rest := []) rfl rfl (Nat.le_of_ble_eq_true rfl) rfl (g_recv (b := 0) rfl t_0 rfl) (C119 (by omega) hv3) ?_
  rcases g_tbp H with ⟨v4, s5, hv4, H⟩ | ⟨v4, s5, hv4, H⟩
  rotate_left
  · cases H
    refine n_callx (z := .inl none) (n_q md_112 rfl) (As := [.int v3]) (rest := []) rfl rfl (Nat.le_of_ble_eq_true rfl) rfl rfl (C116 (by omega) hv4) rfl
  refine n_call (n_q md_112 rfl) (As := [.int v3]) (rest := []) rfl rfl (Nat.le_of_ble_eq_true rfl) rfl rfl (C116 (by omega) hv4) ?_
  refine g_go 1 md_112 (i1 := 8) rfl ?_
  refine g_getr 77 (n_q md_112 rfl) t_0 rfl ?_
  refine g_go 1 md_112 (i1 := 10) rfl ?_
  refine g_getr 22 (n_q md_112 rfl) t_0 rfl ?_
  refine g_go 1 md_112 (i1 := 12) rfl ?_
  refine g_getr 2 (n_q md_112 rfl) t_0 rfl ?_
  refine g_go 1 md_112 (i1 := 14) rfl ?_
  obtain ⟨h6, H⟩ := g_gd H
  refine g_aald (n_q md_112 rfl) ta_2 (by decide) h6 (g_range (g_inlt h6)) ?_
  obtain ⟨s8, hs8, H⟩ := g_bind H
  refine n_call (n_q md_112 rfl) (As := [.ref 77, .ref 22, .ref (86 + 8 * p1.toNatClampNeg)]) (rest := []) rfl rfl (Nat.le_of_ble_eq_true rfl) rfl (g_recv (b := 0) rfl t_77 rfl) (C10 t_22 (te_5 (g_inlt h6)) (by omega) hs8) ?_
  refine g_go 1 md_112 (i1 := 17) rfl ?_
  refine g_getr 77 (n_q md_112 rfl) t_0 rfl ?_
  refine g_getr 81 (n_q md_112 rfl) t_77 rfl ?_
  refine g_go 1 md_112 (i1 := 20) rfl ?_
  obtain ⟨h9, H⟩ := g_gd H
  refine g_iald (n_q md_112 rfl) t_81 h9 ?_
  cases H
  exact n_iret (n_q md_112 rfl) (Or.inl rfl)

theorem md_113 : m_md 113 = m_X7_image := rfl
noncomputable def f113 (s : g_S) : Option (Int32 × g_S) := (if (s 0 11) < 3 then (if m_in (s 0 11) 3 = true then (f1 s (118 + 27 * (s 0 11).toNatClampNeg) 22).bind fun s4 => g_let (g_w s4 0 11 ((s4 0 11) + 1)) fun s5 => some ((s5 0 11, s5)) else none) else (some (((-1), s))))
theorem C113 {d ex : Nat} {s : g_S}  {z : Int32 × g_S} (hd : 14 < d) (H : f113 s = some z) : n_C X d 113 [.ref 0] (g_M s ex) (g_rSI z ex) := by
  obtain ⟨d, rfl⟩ : ∃ d1, d = d1 + 1 := ⟨d - 1, by omega⟩
  replace hd := Nat.le_of_lt_succ hd
  refine ⟨Nat.le_of_ble_eq_true rfl, ?_⟩
  rw [md_113]
  show n_R X (d + 1) 113 0 [some (.ref 0)] [] (g_M s ex) _
  unfold f113 at H
  refine g_go 1 md_113 (i1 := 1) rfl ?_
  refine g_getf (n_q md_113 rfl) t_0 rfl ?_
  refine g_go 1 md_113 (i1 := 3) rfl ?_
  by_cases h1 : (s 0 11) < 3
  · rw [if_pos h1] at H
    refine n_cmpT (n_q md_113 rfl) (decide_eq_true h1) ?_
    refine g_go 1 md_113 (i1 := 7) rfl ?_
    refine g_getr 76 (n_q md_113 rfl) t_0 rfl ?_
    refine g_go 1 md_113 (i1 := 9) rfl ?_
    refine g_getf (n_q md_113 rfl) t_0 rfl ?_
    obtain ⟨h2, H⟩ := g_gd H
    refine g_aald (n_q md_113 rfl) ta_76 (by decide) h2 (g_range (g_inlt h2)) ?_
    refine g_go 1 md_113 (i1 := 12) rfl ?_
    refine g_getr 22 (n_q md_113 rfl) t_0 rfl ?_
    obtain ⟨s4, hs4, H⟩ := g_bind H
    refine n_call (n_q md_113 rfl) (As := [.ref (118 + 27 * (s 0 11).toNatClampNeg), .ref 22]) (rest := []) rfl rfl (Nat.le_of_ble_eq_true rfl) rfl (g_recv (b := 0) rfl (te_8 (g_inlt h2)) rfl) (C1 (te_8 (g_inlt h2)) t_22 (by omega) hs4) ?_
    refine g_go 2 md_113 (i1 := 16) rfl ?_
    refine g_getf (n_q md_113 rfl) t_0 rfl ?_
    refine g_go 2 md_113 (i1 := 19) rfl ?_
    obtain ⟨s5, es5, H⟩ := g_letp H
    refine g_putf (n_q md_113 rfl) t_0 rfl rfl es5 ?_
    refine g_go 1 md_113 (i1 := 21) rfl ?_
    refine g_getf (n_q md_113 rfl) t_0 rfl ?_
    cases H
    exact n_iret (n_q md_113 rfl) (Or.inl rfl)
  · rw [if_neg h1] at H
    refine n_cmpF (n_q md_113 rfl) (fun e1 => h1 (of_decide_eq_true e1)) ?_
    refine g_go 1 md_113 (i1 := 5) rfl ?_
    cases H
    exact n_iret (n_q md_113 rfl) (Or.inl rfl)

theorem md_114 : m_md 114 = m_X7_restore := rfl
noncomputable def f114 (s : g_S) : Option (Int32 × g_S) := (if (s 0 11) < 1 then (some (((-1), s))) else (g_let (g_w s 0 11 ((s 0 11) - 1)) fun s2 => if m_in (s2 0 11) 3 = true then (f1 s2 22 (118 + 27 * (s2 0 11).toNatClampNeg)).bind fun s5 => some ((s5 0 11, s5)) else none))
theorem C114 {d ex : Nat} {s : g_S}  {z : Int32 × g_S} (hd : 14 < d) (H : f114 s = some z) : n_C X d 114 [.ref 0] (g_M s ex) (g_rSI z ex) := by
  obtain ⟨d, rfl⟩ : ∃ d1, d = d1 + 1 := ⟨d - 1, by omega⟩
  replace hd := Nat.le_of_lt_succ hd
  refine ⟨Nat.le_of_ble_eq_true rfl, ?_⟩
  rw [md_114]
  show n_R X (d + 1) 114 0 [some (.ref 0)] [] (g_M s ex) _
  unfold f114 at H
  refine g_go 1 md_114 (i1 := 1) rfl ?_
  refine g_getf (n_q md_114 rfl) t_0 rfl ?_
  refine g_go 1 md_114 (i1 := 3) rfl ?_
  by_cases h1 : (s 0 11) < 1
  · rw [if_pos h1] at H
    refine n_cmpF (n_q md_114 rfl) (fun e1 => absurd (of_decide_eq_true e1) (Int32.not_le.mpr h1)) ?_
    refine g_go 1 md_114 (i1 := 5) rfl ?_
    cases H
    exact n_iret (n_q md_114 rfl) (Or.inl rfl)
  · rw [if_neg h1] at H
    refine n_cmpT (n_q md_114 rfl) (decide_eq_true (Int32.not_lt.mp h1)) ?_
    refine g_go 2 md_114 (i1 := 8) rfl ?_
    refine g_getf (n_q md_114 rfl) t_0 rfl ?_
    refine g_go 2 md_114 (i1 := 11) rfl ?_
    obtain ⟨s2, es2, H⟩ := g_letp H
    refine g_putf (n_q md_114 rfl) t_0 rfl rfl es2 ?_
    refine g_go 1 md_114 (i1 := 13) rfl ?_
    refine g_getr 22 (n_q md_114 rfl) t_0 rfl ?_
    refine g_go 1 md_114 (i1 := 15) rfl ?_
    refine g_getr 76 (n_q md_114 rfl) t_0 rfl ?_
    refine g_go 1 md_114 (i1 := 17) rfl ?_
    refine g_getf (n_q md_114 rfl) t_0 rfl ?_
    obtain ⟨h3, H⟩ := g_gd H
    refine g_aald (n_q md_114 rfl) ta_76 (by decide) h3 (g_range (g_inlt h3)) ?_
    obtain ⟨s5, hs5, H⟩ := g_bind H
    refine n_call (n_q md_114 rfl) (As := [.ref 22, .ref (118 + 27 * (s2 0 11).toNatClampNeg)]) (rest := []) rfl rfl (Nat.le_of_ble_eq_true rfl) rfl (g_recv (b := 0) rfl t_22 rfl) (C1 t_22 (te_8 (g_inlt h3)) (by omega) hs5) ?_
    refine g_go 1 md_114 (i1 := 21) rfl ?_
    refine g_getf (n_q md_114 rfl) t_0 rfl ?_
    cases H
    exact n_iret (n_q md_114 rfl) (Or.inl rfl)

theorem md_115 : m_md 115 = m_X7_count := rfl
noncomputable def f115 (s : g_S) (p1 : Int32) : Option (Int32) := ((if p1 = 0 then (some (s 0 3)) else (if p1 = 1 then (some (s 22 1)) else (if p1 = 2 then (some (s 22 7)) else (if p1 = 3 then ((f19 s 25).bind fun v5 => some v5) else (if p1 = 4 then (some (s 25 0)) else (if p1 = 5 then (some (s 0 11)) else (if p1 = 6 then (some (s 0 1)) else (if p1 = 7 then (some (s 22 2)) else (some ((-1))))))))))))
theorem C115 {d ex : Nat} {s : g_S} {p1 : Int32}  {z : Int32} (hd : 13 < d) (H : f115 s p1 = some z) : n_C X d 115 [.ref 0, .int p1] (g_M s ex) (g_rPI s z ex) := by
  obtain ⟨d, rfl⟩ : ∃ d1, d = d1 + 1 := ⟨d - 1, by omega⟩
  replace hd := Nat.le_of_lt_succ hd
  refine ⟨Nat.le_of_ble_eq_true rfl, ?_⟩
  rw [md_115]
  show n_R X (d + 1) 115 0 [some (.ref 0), some (.int p1)] [] (g_M s ex) _
  unfold f115 at H
  refine g_go 1 md_115 (i1 := 1) rfl ?_
  refine n_sw (n_q md_115 rfl) ?_
  unfold m_sw
  by_cases h1 : p1 = 0
  · rw [if_pos h1] at H ⊢
    refine g_go 1 md_115 (i1 := 3) rfl ?_
    refine g_getf (n_q md_115 rfl) t_0 rfl ?_
    cases H
    exact n_iret (n_q md_115 rfl) (Or.inl rfl)
  · rw [if_neg h1] at H ⊢
    unfold m_sw
    by_cases h2 : p1 = 1
    · rw [if_pos h2] at H ⊢
      refine g_go 1 md_115 (i1 := 6) rfl ?_
      refine g_getr 22 (n_q md_115 rfl) t_0 rfl ?_
      refine g_getf (n_q md_115 rfl) t_22 rfl ?_
      cases H
      exact n_iret (n_q md_115 rfl) (Or.inl rfl)
    · rw [if_neg h2] at H ⊢
      unfold m_sw
      by_cases h3 : p1 = 2
      · rw [if_pos h3] at H ⊢
        refine g_go 1 md_115 (i1 := 10) rfl ?_
        refine g_getr 22 (n_q md_115 rfl) t_0 rfl ?_
        refine g_getf (n_q md_115 rfl) t_22 rfl ?_
        cases H
        exact n_iret (n_q md_115 rfl) (Or.inl rfl)
      · rw [if_neg h3] at H ⊢
        unfold m_sw
        by_cases h4 : p1 = 3
        · rw [if_pos h4] at H ⊢
          refine g_go 1 md_115 (i1 := 14) rfl ?_
          refine g_getr 22 (n_q md_115 rfl) t_0 rfl ?_
          refine g_getr 25 (n_q md_115 rfl) t_22 rfl ?_
          obtain ⟨v5, hv5, H⟩ := g_bind H
          refine n_callv (n_q md_115 rfl) (As := [.ref 25]) (rest := []) rfl rfl (Nat.le_of_ble_eq_true rfl) rfl (g_recv (b := 0) rfl t_25 rfl) (C19 t_25 (by omega) hv5) ?_
          cases H
          exact n_iret (n_q md_115 rfl) (Or.inl rfl)
        · rw [if_neg h4] at H ⊢
          unfold m_sw
          by_cases h5 : p1 = 4
          · rw [if_pos h5] at H ⊢
            refine g_go 1 md_115 (i1 := 19) rfl ?_
            refine g_getr 22 (n_q md_115 rfl) t_0 rfl ?_
            refine g_getr 25 (n_q md_115 rfl) t_22 rfl ?_
            refine g_getf (n_q md_115 rfl) t_25 rfl ?_
            cases H
            exact n_iret (n_q md_115 rfl) (Or.inl rfl)
          · rw [if_neg h5] at H ⊢
            unfold m_sw
            by_cases h6 : p1 = 5
            · rw [if_pos h6] at H ⊢
              refine g_go 1 md_115 (i1 := 24) rfl ?_
              refine g_getf (n_q md_115 rfl) t_0 rfl ?_
              cases H
              exact n_iret (n_q md_115 rfl) (Or.inl rfl)
            · rw [if_neg h6] at H ⊢
              unfold m_sw
              by_cases h7 : p1 = 6
              · rw [if_pos h7] at H ⊢
                refine g_go 1 md_115 (i1 := 27) rfl ?_
                refine g_getf (n_q md_115 rfl) t_0 rfl ?_
                cases H
                exact n_iret (n_q md_115 rfl) (Or.inl rfl)
              · rw [if_neg h7] at H ⊢
                unfold m_sw
                by_cases h8 : p1 = 7
                · rw [if_pos h8] at H ⊢
                  refine g_go 1 md_115 (i1 := 30) rfl ?_
                  refine g_getr 22 (n_q md_115 rfl) t_0 rfl ?_
                  refine g_getf (n_q md_115 rfl) t_22 rfl ?_
                  cases H
                  exact n_iret (n_q md_115 rfl) (Or.inl rfl)
                · rw [if_neg h8] at H ⊢
                  unfold m_sw
                  refine g_go 1 md_115 (i1 := 34) rfl ?_
                  cases H
                  exact n_iret (n_q md_115 rfl) (Or.inl rfl)

theorem md_133 : m_md 133 = m_X8_thrown := rfl
noncomputable def f133 (s : g_S) : Option (Int32) := (some (s 199 0))
theorem C133 {d ex : Nat} {s : g_S}  {z : Int32} (hd : 12 < d) (H : f133 s = some z) : n_C X d 133 [.ref 199] (g_M s ex) (g_rPI s z ex) := by
  obtain ⟨d, rfl⟩ : ∃ d1, d = d1 + 1 := ⟨d - 1, by omega⟩
  replace hd := Nat.le_of_lt_succ hd
  refine ⟨Nat.le_of_ble_eq_true rfl, ?_⟩
  rw [md_133]
  show n_R X (d + 1) 133 0 [some (.ref 199)] [] (g_M s ex) _
  unfold f133 at H
  refine g_go 1 md_133 (i1 := 1) rfl ?_
  refine g_getf (n_q md_133 rfl) t_199 rfl ?_
  cases H
  exact n_iret (n_q md_133 rfl) (Or.inl rfl)

theorem md_134 : m_md 134 = m_X8_bad := rfl
noncomputable def f134_8 (s : g_S) (p1 : Int32) (p2 : Int32) : Option (Int32 × g_S) := (if (s 199 0) = 0 then (some ((0, s))) else (some ((1, s))))
theorem P134_8 {d ex : Nat} {s : g_S} {p1 : Int32} {p2 : Int32}   {z : (Int32 × g_S)} (H : f134_8 s p1 p2 = some z) (hd : 12 ≤ d)  : n_R X (d + 1) 134 8 [some (.ref 199), some (.int p1), some (.int p2)] [] (g_M s ex) (g_rSI z ex) := by
  unfold f134_8 at H
  refine g_go 1 md_134 (i1 := 9) rfl ?_
  refine g_getf (n_q md_134 rfl) t_199 rfl ?_
  by_cases h1 : (s 199 0) = 0
  · rw [if_pos h1] at H
    refine n_ifT (n_q md_134 rfl) (decide_eq_true h1) ?_
    refine g_go 1 md_134 (i1 := 14) rfl ?_
    cases H
    exact n_iret (n_q md_134 rfl) (Or.inr rfl)
  · rw [if_neg h1] at H
    refine n_ifF (n_q md_134 rfl) (fun e1 => h1 (of_decide_eq_true e1)) ?_
    refine g_go 2 md_134 (i1 := 14) rfl ?_
    cases H
    exact n_iret (n_q md_134 rfl) (Or.inr rfl)
noncomputable def f134 (s : g_S) (p1 : Int32) (p2 : Int32) : Option (Int32 × g_S) := (if p1 = 0 then (f134_8 s p1 p2) else (if (s 199 0) = 0 then (g_let (g_w s 199 0 p2) fun s3 => f134_8 s3 p1 p2) else (f134_8 s p1 p2)))
theorem C134 {d ex : Nat} {s : g_S} {p1 : Int32} {p2 : Int32}  {z : Int32 × g_S} (hd : 12 < d) (H : f134 s p1 p2 = some z) : n_C X d 134 [.ref 199, .int p1, .int p2] (g_M s ex) (g_rSI z ex) := by
  obtain ⟨d, rfl⟩ : ∃ d1, d = d1 + 1 := ⟨d - 1, by omega⟩
  replace hd := Nat.le_of_lt_succ hd
  refine ⟨Nat.le_of_ble_eq_true rfl, ?_⟩
  rw [md_134]
  show n_R X (d + 1) 134 0 [some (.ref 199), some (.int p1), some (.int p2)] [] (g_M s ex) _
  unfold f134 at H
  refine g_go 1 md_134 (i1 := 1) rfl ?_
  by_cases h1 : p1 = 0
  · rw [if_pos h1] at H
    refine n_ifT (n_q md_134 rfl) (decide_eq_true h1) ?_
    exact P134_8 H hd
  · rw [if_neg h1] at H
    refine n_ifF (n_q md_134 rfl) (fun e1 => h1 (of_decide_eq_true e1)) ?_
    refine g_go 1 md_134 (i1 := 3) rfl ?_
    refine g_getf (n_q md_134 rfl) t_199 rfl ?_
    by_cases h2 : (s 199 0) = 0
    · rw [if_pos h2] at H
      refine n_ifF (n_q md_134 rfl) (fun e1 => of_decide_eq_true e1 h2) ?_
      refine g_go 2 md_134 (i1 := 7) rfl ?_
      obtain ⟨s3, es3, H⟩ := g_letp H
      refine g_putf (n_q md_134 rfl) t_199 rfl rfl es3 ?_
      exact P134_8 H hd
    · rw [if_neg h2] at H
      refine n_ifT (n_q md_134 rfl) (decide_eq_true h2) ?_
      exact P134_8 H hd

theorem md_135 : m_md 135 = m_X8_in := rfl
noncomputable def f135 (s : g_S) (p0 : Int32) (p1 : Int32) (p2 : Int32) : Option (Int32) := (if p0 < p1 then (some 0) else (if p2 < p0 then (some 0) else (some 1)))
theorem C135 {d ex : Nat} {s : g_S} {p0 : Int32} {p1 : Int32} {p2 : Int32}  {z : Int32} (hd : 12 < d) (H : f135 s p0 p1 p2 = some z) : n_C X d 135 [.int p0, .int p1, .int p2] (g_M s ex) (g_rPI s z ex) := by
  obtain ⟨d, rfl⟩ : ∃ d1, d = d1 + 1 := ⟨d - 1, by omega⟩
  replace hd := Nat.le_of_lt_succ hd
  refine ⟨Nat.le_of_ble_eq_true rfl, ?_⟩
  rw [md_135]
  show n_R X (d + 1) 135 0 [some (.int p0), some (.int p1), some (.int p2)] [] (g_M s ex) _
  unfold f135 at H
  refine g_go 2 md_135 (i1 := 2) rfl ?_
  by_cases h1 : p0 < p1
  · rw [if_pos h1] at H
    refine n_cmpT (n_q md_135 rfl) (decide_eq_true h1) ?_
    refine g_go 1 md_135 (i1 := 9) rfl ?_
    cases H
    exact n_iret (n_q md_135 rfl) (Or.inr rfl)
  · rw [if_neg h1] at H
    refine n_cmpF (n_q md_135 rfl) (fun e1 => h1 (of_decide_eq_true e1)) ?_
    refine g_go 2 md_135 (i1 := 5) rfl ?_
    by_cases h2 : p2 < p0
    · rw [if_pos h2] at H
      refine n_cmpT (n_q md_135 rfl) (decide_eq_true h2) ?_
      refine g_go 1 md_135 (i1 := 9) rfl ?_
      cases H
      exact n_iret (n_q md_135 rfl) (Or.inr rfl)
    · rw [if_neg h2] at H
      refine n_cmpF (n_q md_135 rfl) (fun e1 => h2 (of_decide_eq_true e1)) ?_
      refine g_go 2 md_135 (i1 := 9) rfl ?_
      cases H
      exact n_iret (n_q md_135 rfl) (Or.inr rfl)

noncomputable def f136 (s : g_S) (p0 : Int32) (p1 : Int32) : Option (Int32) := (if p0 < p1 then (some p0) else (some p1))
theorem C136 {d ex : Nat} {s : g_S} {p0 : Int32} {p1 : Int32}  {z : Int32} (hd : 12 < d) (H : f136 s p0 p1 = some z) : n_C X d 136 [.int p0, .int p1] (g_M s ex) (g_rPI s z ex) := by
  obtain ⟨d, rfl⟩ : ∃ d1, d = d1 + 1 := ⟨d - 1, by omega⟩
  replace hd := Nat.le_of_lt_succ hd
  refine ⟨Nat.le_of_ble_eq_true rfl, ?_⟩
  rw [md_136]
  show n_R X (d + 1) 136 0 [some (.int p0), some (.int p1)] [] (g_M s ex) _
  unfold f136 at H
  refine g_go 2 md_136 (i1 := 2) rfl ?_
  by_cases h1 : p0 < p1
  · rw [if_pos h1] at H
    refine n_cmpF (n_q md_136 rfl) (fun e1 => absurd (of_decide_eq_true e1) (Int32.not_le.mpr h1)) ?_
    refine g_go 2 md_136 (i1 := 6) rfl ?_
    cases H
    exact n_iret (n_q md_136 rfl) (Or.inl rfl)
  · rw [if_neg h1] at H
    refine n_cmpT (n_q md_136 rfl) (decide_eq_true (Int32.not_lt.mp h1)) ?_
    refine g_go 1 md_136 (i1 := 6) rfl ?_
    cases H
    exact n_iret (n_q md_136 rfl) (Or.inl rfl)

theorem md_137 : m_md 137 = m_X8_feed := rfl
noncomputable def f137_37 (s : g_S) (p1 : Int32) (p2 : Int32) (p3 : Int32) (p4 : Int32) (p5 : Int32) (x6 : Int32) (y0 : Int32) : Option ((Int32 × g_S) ⊕ (Int32 × g_S)) := (if m_in (s 199 1) 500 = true then g_let (g_w s 200 (s 199 1).toNatClampNeg ((y0 >>> ((24 - (8 * (x6 - x6 / 4 * 4))) &&& 31)) &&& 255)) fun s2 => g_let (g_w s2 199 1 ((s2 199 1) + 1)) fun s3 => some (.inl (x6 + 1, s3)) else none)
theorem P137_37 {d ex : Nat} {rr : m_R} {s : g_S} {p1 : Int32} {p2 : Int32} {p3 : Int32} {p4 : Int32} {p5 : Int32} {x6 : Int32} {y0 : Int32} {u7 : Option Value}   {z : ((Int32 × g_S) ⊕ (Int32 × g_S))} (H : f137_37 s p1 p2 p3 p4 p5 x6 y0 = some z) (hd : 12 ≤ d) (K0 : ∀ S : Int32 × g_S, z = .inl S → ∀ u7 : Option Value, n_R X (d + 1) 137 13 [some (.ref 199), some (.int p1), some (.int p2), some (.int p3), some (.int p4), some (.int p5), some (.int S.1), u7] [] (g_M S.2 ex) rr) (Kr : ∀ q, z = .inr (q) → g_rSI q ex = rr) : n_R X (d + 1) 137 37 [some (.ref 199), some (.int p1), some (.int p2), some (.int p3), some (.int p4), some (.int p5), some (.int x6), u7] [.int y0] (g_M s ex) rr := by
  unfold f137_37 at H
  refine g_go 2 md_137 (i1 := 39) (ls1 := [some (.ref 199), some (.int p1), some (.int p2), some (.int p3), some (.int p4), some (.int p5), some (.int x6), some (.int y0)]) rfl ?_
  refine g_getr 200 (n_q md_137 rfl) t_199 rfl ?_
  refine g_go 1 md_137 (i1 := 41) rfl ?_
  refine g_getf (n_q md_137 rfl) t_199 rfl ?_
  refine g_go 5 md_137 (i1 := 47) rfl ?_
  refine n_bin (n_q md_137 rfl) (g_rem (by decide : ¬ (4 : Int32) = 0)) ?_
  refine g_go 5 md_137 (i1 := 53) rfl ?_
  obtain ⟨h1, H⟩ := g_gd H
  obtain ⟨s2, es2, H⟩ := g_letp H
  refine g_iast (n_q md_137 rfl) t_200 h1 es2 ?_
  refine g_go 2 md_137 (i1 := 56) rfl ?_
  refine g_getf (n_q md_137 rfl) t_199 rfl ?_
  refine g_go 2 md_137 (i1 := 59) rfl ?_
  obtain ⟨s3, es3, H⟩ := g_letp H
  refine g_putf (n_q md_137 rfl) t_199 rfl rfl es3 ?_
  refine g_go 2 md_137 (i1 := 13) (ls1 := [some (.ref 199), some (.int p1), some (.int p2), some (.int p3), some (.int p4), some (.int p5), some (.int (x6 + 1)), some (.int y0)]) rfl ?_
  cases H
  exact K0 (x6 + 1, s3) rfl _
noncomputable def f137_13 (s : g_S) (p1 : Int32) (p2 : Int32) (p3 : Int32) (p4 : Int32) (p5 : Int32) (x6 : Int32) : Option ((Int32 × g_S) ⊕ (Int32 × g_S)) := (if x6 < 20 then (if x6 < 4 then (f137_37 s p1 p2 p3 p4 p5 x6 p1) else (if x6 < 8 then (f137_37 s p1 p2 p3 p4 p5 x6 p2) else (if x6 < 12 then (f137_37 s p1 p2 p3 p4 p5 x6 p3) else (if x6 < 16 then (f137_37 s p1 p2 p3 p4 p5 x6 p4) else (f137_37 s p1 p2 p3 p4 p5 x6 p5))))) else (some (.inr ((s 199 1, s)))))
theorem P137_13 {d ex : Nat} {rr : m_R} {s : g_S} {p1 : Int32} {p2 : Int32} {p3 : Int32} {p4 : Int32} {p5 : Int32} {x6 : Int32} {u7 : Option Value}   {z : ((Int32 × g_S) ⊕ (Int32 × g_S))} (H : f137_13 s p1 p2 p3 p4 p5 x6 = some z) (hd : 12 ≤ d) (K0 : ∀ S : Int32 × g_S, z = .inl S → ∀ u7 : Option Value, n_R X (d + 1) 137 13 [some (.ref 199), some (.int p1), some (.int p2), some (.int p3), some (.int p4), some (.int p5), some (.int S.1), u7] [] (g_M S.2 ex) rr) (Kr : ∀ q, z = .inr (q) → g_rSI q ex = rr) : n_R X (d + 1) 137 13 [some (.ref 199), some (.int p1), some (.int p2), some (.int p3), some (.int p4), some (.int p5), some (.int x6), u7] [] (g_M s ex) rr := by
  unfold f137_13 at H
  refine g_go 2 md_137 (i1 := 15) rfl ?_
  by_cases h1 : x6 < 20
  · rw [if_pos h1] at H
    refine n_cmpF (n_q md_137 rfl) (fun e1 => absurd (of_decide_eq_true e1) (Int32.not_le.mpr h1)) ?_
    refine g_go 2 md_137 (i1 := 18) rfl ?_
    by_cases h2 : x6 < 4
    · rw [if_pos h2] at H
      refine n_cmpF (n_q md_137 rfl) (fun e1 => absurd (of_decide_eq_true e1) (Int32.not_le.mpr h2)) ?_
      refine g_go 2 md_137 (i1 := 37) rfl ?_
      exact P137_37 H hd K0 Kr
    · rw [if_neg h2] at H
      refine n_cmpT (n_q md_137 rfl) (decide_eq_true (Int32.not_lt.mp h2)) ?_
      refine g_go 2 md_137 (i1 := 23) rfl ?_
      by_cases h3 : x6 < 8
      · rw [if_pos h3] at H
        refine n_cmpF (n_q md_137 rfl) (fun e1 => absurd (of_decide_eq_true e1) (Int32.not_le.mpr h3)) ?_
        refine g_go 2 md_137 (i1 := 37) rfl ?_
        exact P137_37 H hd K0 Kr
      · rw [if_neg h3] at H
        refine n_cmpT (n_q md_137 rfl) (decide_eq_true (Int32.not_lt.mp h3)) ?_
        refine g_go 2 md_137 (i1 := 28) rfl ?_
        by_cases h4 : x6 < 12
        · rw [if_pos h4] at H
          refine n_cmpF (n_q md_137 rfl) (fun e1 => absurd (of_decide_eq_true e1) (Int32.not_le.mpr h4)) ?_
          refine g_go 2 md_137 (i1 := 37) rfl ?_
          exact P137_37 H hd K0 Kr
        · rw [if_neg h4] at H
          refine n_cmpT (n_q md_137 rfl) (decide_eq_true (Int32.not_lt.mp h4)) ?_
          refine g_go 2 md_137 (i1 := 33) rfl ?_
          by_cases h5 : x6 < 16
          · rw [if_pos h5] at H
            refine n_cmpF (n_q md_137 rfl) (fun e1 => absurd (of_decide_eq_true e1) (Int32.not_le.mpr h5)) ?_
            refine g_go 2 md_137 (i1 := 37) rfl ?_
            exact P137_37 H hd K0 Kr
          · rw [if_neg h5] at H
            refine n_cmpT (n_q md_137 rfl) (decide_eq_true (Int32.not_lt.mp h5)) ?_
            refine g_go 1 md_137 (i1 := 37) rfl ?_
            exact P137_37 H hd K0 Kr
  · rw [if_neg h1] at H
    refine n_cmpT (n_q md_137 rfl) (decide_eq_true (Int32.not_lt.mp h1)) ?_
    refine g_go 1 md_137 (i1 := 63) rfl ?_
    refine g_getf (n_q md_137 rfl) t_199 rfl ?_
    cases H
    rw [← Kr _ rfl]
    exact n_iret (n_q md_137 rfl) (Or.inl rfl)
noncomputable def f137_13L (s : g_S) (p1 : Int32) (p2 : Int32) (p3 : Int32) (p4 : Int32) (p5 : Int32) (x6 : Int32) : Option (Int32 × g_S) := g_run (fun S : Int32 × g_S => f137_13 S.2 p1 p2 p3 p4 p5 S.1) (x6, s)
theorem f137_13L_eq (s : g_S) (p1 : Int32) (p2 : Int32) (p3 : Int32) (p4 : Int32) (p5 : Int32) (x6 : Int32) : f137_13L s p1 p2 p3 p4 p5 x6 = g_st (f137_13 s p1 p2 p3 p4 p5 x6) (fun S => f137_13L S.2 p1 p2 p3 p4 p5 S.1) := by
  unfold f137_13L
  exact g_run_eq _ _
theorem P137_13L {d ex : Nat} {s : g_S} {p1 : Int32} {p2 : Int32} {p3 : Int32} {p4 : Int32} {p5 : Int32} {x6 : Int32} {u7 : Option Value}   {z : (Int32 × g_S)} (H : f137_13L s p1 p2 p3 p4 p5 x6 = some z) (hd : 12 ≤ d)  : n_R X (d + 1) 137 13 [some (.ref 199), some (.int p1), some (.int p2), some (.int p3), some (.int p4), some (.int p5), some (.int x6), u7] [] (g_M s ex) (g_rSI z ex) := by
  unfold f137_13L at H
  refine g_rs (Q := fun S => ∀ u7 : Option Value, n_R X (d + 1) 137 13 [some (.ref 199), some (.int p1), some (.int p2), some (.int p3), some (.int p4), some (.int p5), some (.int S.1), u7] [] (g_M S.2 ex) (g_rSI z ex)) H ?_ u7
  intro S w hb K0 KK u7
  refine P137_13 hb hd ?_ ?_
  · exact fun S1 e1 => K0 S1 e1
  · exact fun q e1 => by rw [KK q e1]
noncomputable def f137 (s : g_S) (p1 : Int32) (p2 : Int32) (p3 : Int32) (p4 : Int32) (p5 : Int32) : Option (Int32 × g_S) := (g_let (g_w s 199 0 0) fun s1 => if 500 < ((s1 199 1) + 20) then (some (((-1), s1))) else (f137_13L s1 p1 p2 p3 p4 p5 0))
theorem C137 {d ex : Nat} {s : g_S} {p1 : Int32} {p2 : Int32} {p3 : Int32} {p4 : Int32} {p5 : Int32}  {z : Int32 × g_S} (hd : 12 < d) (H : f137 s p1 p2 p3 p4 p5 = some z) : n_C X d 137 [.ref 199, .int p1, .int p2, .int p3, .int p4, .int p5] (g_M s ex) (g_rSI z ex) := by
  obtain ⟨d, rfl⟩ : ∃ d1, d = d1 + 1 := ⟨d - 1, by omega⟩
  replace hd := Nat.le_of_lt_succ hd
  refine ⟨Nat.le_of_ble_eq_true rfl, ?_⟩
  rw [md_137]
  show n_R X (d + 1) 137 0 [some (.ref 199), some (.int p1), some (.int p2), some (.int p3), some (.int p4), some (.int p5), none, none] [] (g_M s ex) _
  unfold f137 at H
  refine g_go 2 md_137 (i1 := 2) rfl ?_
  obtain ⟨s1, es1, H⟩ := g_letp H
  refine g_putf (n_q md_137 rfl) t_199 rfl rfl es1 ?_
  refine g_go 1 md_137 (i1 := 4) rfl ?_
  refine g_getf (n_q md_137 rfl) t_199 rfl ?_
  refine g_go 3 md_137 (i1 := 8) rfl ?_
  by_cases h2 : 500 < ((s1 199 1) + 20)
  · rw [if_pos h2] at H
    refine n_cmpF (n_q md_137 rfl) (fun e1 => absurd (of_decide_eq_true e1) (Int32.not_le.mpr h2)) ?_
    refine g_go 1 md_137 (i1 := 10) rfl ?_
    cases H
    exact n_iret (n_q md_137 rfl) (Or.inl rfl)
  · rw [if_neg h2] at H
    refine n_cmpT (n_q md_137 rfl) (decide_eq_true (Int32.not_lt.mp h2)) ?_
    refine g_go 2 md_137 (i1 := 13) (ls1 := [some (.ref 199), some (.int p1), some (.int p2), some (.int p3), some (.int p4), some (.int p5), some (.int 0), none]) rfl ?_
    exact P137_13L H hd

theorem md_138 : m_md 138 = m_X8_byteAt := rfl
noncomputable def f138 (s : g_S) (p1 : Int32) : Option (Int32) := (if p1 < (s 199 2) then (if (s 199 8) = ((-1)) then (if m_in p1 500 = true then some (s 200 p1.toNatClampNeg) else none) else (if m_in (s 199 8) 4 = true then if m_in p1 500 = true then some (s (202 + (s 199 8).toNatClampNeg) p1.toNatClampNeg) else none else none)) else (some ((-1))))
theorem C138 {d ex : Nat} {s : g_S} {p1 : Int32}  {z : Int32} (hd : 12 < d) (H : f138 s p1 = some z) : n_C X d 138 [.ref 199, .int p1] (g_M s ex) (g_rPI s z ex) := by
  obtain ⟨d, rfl⟩ : ∃ d1, d = d1 + 1 := ⟨d - 1, by omega⟩
  replace hd := Nat.le_of_lt_succ hd
  refine ⟨Nat.le_of_ble_eq_true rfl, ?_⟩
  rw [md_138]
  show n_R X (d + 1) 138 0 [some (.ref 199), some (.int p1)] [] (g_M s ex) _
  unfold f138 at H
  refine g_go 2 md_138 (i1 := 2) rfl ?_
  refine g_getf (n_q md_138 rfl) t_199 rfl ?_
  by_cases h1 : p1 < (s 199 2)
  · rw [if_pos h1] at H
    refine n_cmpT (n_q md_138 rfl) (decide_eq_true h1) ?_
    refine g_go 1 md_138 (i1 := 7) rfl ?_
    refine g_getf (n_q md_138 rfl) t_199 rfl ?_
    refine g_go 1 md_138 (i1 := 9) rfl ?_
    by_cases h2 : (s 199 8) = ((-1))
    · rw [if_pos h2] at H
      refine n_cmpF (n_q md_138 rfl) (fun e1 => of_decide_eq_true e1 h2) ?_
      refine g_go 1 md_138 (i1 := 11) rfl ?_
      refine g_getr 200 (n_q md_138 rfl) t_199 rfl ?_
      refine g_go 1 md_138 (i1 := 13) rfl ?_
      obtain ⟨h3, H⟩ := g_gd H
      refine g_iald (n_q md_138 rfl) t_200 h3 ?_
      refine g_go 1 md_138 (i1 := 22) rfl ?_
      cases H
      exact n_iret (n_q md_138 rfl) (Or.inl rfl)
    · rw [if_neg h2] at H
      refine n_cmpT (n_q md_138 rfl) (decide_eq_true h2) ?_
      refine g_go 1 md_138 (i1 := 16) rfl ?_
      refine g_getr 201 (n_q md_138 rfl) t_199 rfl ?_
      refine g_go 1 md_138 (i1 := 18) rfl ?_
      refine g_getf (n_q md_138 rfl) t_199 rfl ?_
      obtain ⟨h3, H⟩ := g_gd H
      refine g_aald (n_q md_138 rfl) ta_201 (by decide) h3 (g_range (g_inlt h3)) ?_
      refine g_go 1 md_138 (i1 := 21) rfl ?_
      obtain ⟨h4, H⟩ := g_gd H
      refine g_iald (n_q md_138 rfl) (te_201 (g_inlt h3)) h4 ?_
      cases H
      exact n_iret (n_q md_138 rfl) (Or.inl rfl)
  · rw [if_neg h1] at H
    refine n_cmpF (n_q md_138 rfl) (fun e1 => h1 (of_decide_eq_true e1)) ?_
    refine g_go 2 md_138 (i1 := 22) rfl ?_
    cases H
    exact n_iret (n_q md_138 rfl) (Or.inl rfl)

theorem md_139 : m_md 139 = m_X8_blanks := rfl
noncomputable def f139_0 (s : g_S) : Option ((g_S) ⊕ (g_S)) := ((f138 s (s 199 4)).bind fun v1 => if v1 = 32 then (g_let (g_w s 199 4 ((s 199 4) + 1)) fun s3 => some (.inl (s3))) else (some (.inr (s))))
theorem P139_0 {d ex : Nat} {rr : m_R} {s : g_S}   {z : ((g_S) ⊕ (g_S))} (H : f139_0 s = some z) (hd : 13 ≤ d) (K0 : ∀ S : g_S, z = .inl S → n_R X (d + 1) 139 0 [some (.ref 199)] [] (g_M S ex) rr) (Kr : ∀ q, z = .inr (q) → g_rSV q ex = rr) : n_R X (d + 1) 139 0 [some (.ref 199)] [] (g_M s ex) rr := by
  unfold f139_0 at H
  refine g_go 2 md_139 (i1 := 2) rfl ?_
  refine g_getf (n_q md_139 rfl) t_199 rfl ?_
  obtain ⟨v1, hv1, H⟩ := g_bind H
  refine n_callv (n_q md_139 rfl) (As := [.ref 199, .int (s 199 4)]) (rest := []) rfl rfl (Nat.le_of_ble_eq_true rfl) rfl (g_recv (b := 0) rfl t_199 rfl) (C138 (by omega) hv1) ?_
  refine g_go 1 md_139 (i1 := 5) rfl ?_
  by_cases h2 : v1 = 32
  · rw [if_pos h2] at H
    refine n_cmpF (n_q md_139 rfl) (fun e1 => of_decide_eq_true e1 h2) ?_
    refine g_go 2 md_139 (i1 := 8) rfl ?_
    refine g_getf (n_q md_139 rfl) t_199 rfl ?_
    refine g_go 2 md_139 (i1 := 11) rfl ?_
    obtain ⟨s3, es3, H⟩ := g_letp H
    refine g_putf (n_q md_139 rfl) t_199 rfl rfl es3 ?_
    refine g_go 1 md_139 (i1 := 0) rfl ?_
    cases H
    exact K0 (s3) rfl
  · rw [if_neg h2] at H
    refine n_cmpT (n_q md_139 rfl) (decide_eq_true h2) ?_
    cases H
    rw [← Kr _ rfl]
    exact n_end (n_q md_139 rfl) (fun _ => rfl)
noncomputable def f139_0L (s : g_S) : Option (g_S) := g_run (fun S : g_S => f139_0 S) s
theorem f139_0L_eq (s : g_S) : f139_0L s = g_st (f139_0 s) (fun S => f139_0L S) := by
  unfold f139_0L
  exact g_run_eq _ _
theorem P139_0L {d ex : Nat} {s : g_S}   {z : (g_S)} (H : f139_0L s = some z) (hd : 13 ≤ d)  : n_R X (d + 1) 139 0 [some (.ref 199)] [] (g_M s ex) (g_rSV z ex) := by
  unfold f139_0L at H
  refine g_rs (Q := fun S => n_R X (d + 1) 139 0 [some (.ref 199)] [] (g_M S ex) (g_rSV z ex)) H ?_
  intro S w hb K0 KK
  refine P139_0 hb hd ?_ ?_
  · exact fun S1 e1 => K0 S1 e1
  · exact fun q e1 => by rw [KK q e1]
noncomputable def f139 (s : g_S) : Option (g_S) := (f139_0L s)
theorem C139 {d ex : Nat} {s : g_S}  {z : g_S} (hd : 13 < d) (H : f139 s = some z) : n_C X d 139 [.ref 199] (g_M s ex) (g_rSV z ex) := by
  obtain ⟨d, rfl⟩ : ∃ d1, d = d1 + 1 := ⟨d - 1, by omega⟩
  replace hd := Nat.le_of_lt_succ hd
  refine ⟨Nat.le_of_ble_eq_true rfl, ?_⟩
  rw [md_139]
  show n_R X (d + 1) 139 0 [some (.ref 199)] [] (g_M s ex) _
  unfold f139 at H
  exact P139_0L H hd

theorem md_140 : m_md 140 = m_X8_wrongAt := rfl
noncomputable def f140 (s : g_S) (p1 : Int32) (p2 : Int32) : Option (g_S) := (if (s 199 6) = 0 then (g_let (g_w s 199 6 p1) fun s2 => g_let (g_w s2 199 7 p2) fun s3 => some s3) else (some s))
theorem C140 {d ex : Nat} {s : g_S} {p1 : Int32} {p2 : Int32}  {z : g_S} (hd : 12 < d) (H : f140 s p1 p2 = some z) : n_C X d 140 [.ref 199, .int p1, .int p2] (g_M s ex) (g_rSV z ex) := by
  obtain ⟨d, rfl⟩ : ∃ d1, d = d1 + 1 := ⟨d - 1, by omega⟩
  replace hd := Nat.le_of_lt_succ hd
  refine ⟨Nat.le_of_ble_eq_true rfl, ?_⟩
  rw [md_140]
  show n_R X (d + 1) 140 0 [some (.ref 199), some (.int p1), some (.int p2)] [] (g_M s ex) _
  unfold f140 at H
  refine g_go 1 md_140 (i1 := 1) rfl ?_
  refine g_getf (n_q md_140 rfl) t_199 rfl ?_
  by_cases h1 : (s 199 6) = 0
  · rw [if_pos h1] at H
    refine n_ifF (n_q md_140 rfl) (fun e1 => of_decide_eq_true e1 h1) ?_
    refine g_go 2 md_140 (i1 := 5) rfl ?_
    obtain ⟨s2, es2, H⟩ := g_letp H
    refine g_putf (n_q md_140 rfl) t_199 rfl rfl es2 ?_
    refine g_go 2 md_140 (i1 := 8) rfl ?_
    obtain ⟨s3, es3, H⟩ := g_letp H
    refine g_putf (n_q md_140 rfl) t_199 rfl rfl es3 ?_
    cases H
    exact n_end (n_q md_140 rfl) (fun _ => rfl)
  · rw [if_neg h1] at H
    refine n_ifT (n_q md_140 rfl) (decide_eq_true h1) ?_
    cases H
    exact n_end (n_q md_140 rfl) (fun _ => rfl)

theorem md_141 : m_md 141 = m_X8_isDigit := rfl
noncomputable def f141 (s : g_S) (p0 : Int32) : Option (Int32) := (if p0 < 48 then (some 0) else (if 57 < p0 then (some 0) else (some 1)))
theorem C141 {d ex : Nat} {s : g_S} {p0 : Int32}  {z : Int32} (hd : 12 < d) (H : f141 s p0 = some z) : n_C X d 141 [.int p0] (g_M s ex) (g_rPI s z ex) := by
  obtain ⟨d, rfl⟩ : ∃ d1, d = d1 + 1 := ⟨d - 1, by omega⟩
  replace hd := Nat.le_of_lt_succ hd
  refine ⟨Nat.le_of_ble_eq_true rfl, ?_⟩
  rw [md_141]
  show n_R X (d + 1) 141 0 [some (.int p0)] [] (g_M s ex) _
  unfold f141 at H
  refine g_go 2 md_141 (i1 := 2) rfl ?_
  by_cases h1 : p0 < 48
  · rw [if_pos h1] at H
    refine n_cmpT (n_q md_141 rfl) (decide_eq_true h1) ?_
    refine g_go 1 md_141 (i1 := 9) rfl ?_
    cases H
    exact n_iret (n_q md_141 rfl) (Or.inr rfl)
  · rw [if_neg h1] at H
    refine n_cmpF (n_q md_141 rfl) (fun e1 => h1 (of_decide_eq_true e1)) ?_
    refine g_go 2 md_141 (i1 := 5) rfl ?_
    by_cases h2 : 57 < p0
    · rw [if_pos h2] at H
      refine n_cmpT (n_q md_141 rfl) (decide_eq_true h2) ?_
      refine g_go 1 md_141 (i1 := 9) rfl ?_
      cases H
      exact n_iret (n_q md_141 rfl) (Or.inr rfl)
    · rw [if_neg h2] at H
      refine n_cmpF (n_q md_141 rfl) (fun e1 => h2 (of_decide_eq_true e1)) ?_
      refine g_go 2 md_141 (i1 := 9) rfl ?_
      cases H
      exact n_iret (n_q md_141 rfl) (Or.inr rfl)

theorem md_142 : m_md 142 = m_X8_number := rfl
noncomputable def f142_49 (s : g_S) (p1 : Int32) (p2 : Int32) (x3 : Int32) (x4 : Int32) : Option (Int32 × g_S) := ((f135 s x4 p1 p2).bind fun v1 => if v1 = 0 then ((f140 s 2 x3).bind fun s4 => some ((x4, s4))) else (some ((x4, s))))
theorem P142_49 {d ex : Nat} {s : g_S} {p1 : Int32} {p2 : Int32} {x3 : Int32} {x4 : Int32}   {z : (Int32 × g_S)} (H : f142_49 s p1 p2 x3 x4 = some z) (hd : 14 ≤ d)  : n_R X (d + 1) 142 49 [some (.ref 199), some (.int p1), some (.int p2), some (.int x3), some (.int x4)] [] (g_M s ex) (g_rSI z ex) := by
  unfold f142_49 at H
  refine g_go 3 md_142 (i1 := 52) rfl ?_
  obtain ⟨v1, hv1, H⟩ := g_bind H
  refine n_callv (n_q md_142 rfl) (As := [.int x4, .int p1, .int p2]) (rest := []) rfl rfl (Nat.le_of_ble_eq_true rfl) rfl rfl (C135 (by omega) hv1) ?_
  by_cases h2 : v1 = 0
  · rw [if_pos h2] at H
    refine n_ifF (n_q md_142 rfl) (fun e1 => of_decide_eq_true e1 h2) ?_
    refine g_go 3 md_142 (i1 := 57) rfl ?_
    obtain ⟨s4, hs4, H⟩ := g_bind H
    refine n_call (n_q md_142 rfl) (As := [.ref 199, .int 2, .int x3]) (rest := []) rfl rfl (Nat.le_of_ble_eq_true rfl) rfl (g_recv (b := 0) rfl t_199 rfl) (C140 (by omega) hs4) ?_
    refine g_go 1 md_142 (i1 := 59) rfl ?_
    cases H
    exact n_iret (n_q md_142 rfl) (Or.inl rfl)
  · rw [if_neg h2] at H
    refine n_ifT (n_q md_142 rfl) (decide_eq_true h2) ?_
    refine g_go 1 md_142 (i1 := 59) rfl ?_
    cases H
    exact n_iret (n_q md_142 rfl) (Or.inl rfl)
noncomputable def f142_41 (s : g_S) (p1 : Int32) (p2 : Int32) (x3 : Int32) (y0 : Int32) : Option ((Int32 × g_S) ⊕ (Int32 × g_S)) := (g_let (g_w s 199 4 ((s 199 4) + 1)) fun s1 => some (.inl (y0, s1)))
theorem P142_41 {d ex : Nat} {rr : m_R} {s : g_S} {p1 : Int32} {p2 : Int32} {x3 : Int32} {y0 : Int32} {u4 : Option Value}   {z : ((Int32 × g_S) ⊕ (Int32 × g_S))} (H : f142_41 s p1 p2 x3 y0 = some z) (hd : 14 ≤ d) (K0 : ∀ S : Int32 × g_S, z = .inl S → n_R X (d + 1) 142 18 [some (.ref 199), some (.int p1), some (.int p2), some (.int x3), some (.int S.1)] [] (g_M S.2 ex) rr) (Kr : ∀ q, z = .inr (q) → g_rSI q ex = rr) : n_R X (d + 1) 142 41 [some (.ref 199), some (.int p1), some (.int p2), some (.int x3), u4] [.int y0] (g_M s ex) rr := by
  unfold f142_41 at H
  refine g_go 3 md_142 (i1 := 44) (ls1 := [some (.ref 199), some (.int p1), some (.int p2), some (.int x3), some (.int y0)]) rfl ?_
  refine g_getf (n_q md_142 rfl) t_199 rfl ?_
  refine g_go 2 md_142 (i1 := 47) rfl ?_
  obtain ⟨s1, es1, H⟩ := g_letp H
  refine g_putf (n_q md_142 rfl) t_199 rfl rfl es1 ?_
  refine g_go 1 md_142 (i1 := 18) rfl ?_
  cases H
  exact K0 (y0, s1) rfl
noncomputable def f142_18 (s : g_S) (p1 : Int32) (p2 : Int32) (x3 : Int32) (x4 : Int32) : Option ((Int32 × g_S) ⊕ (Int32 × g_S)) := ((f138 s (s 199 4)).bind fun v1 => (f141 s v1).bind fun v2 => if v2 = 0 then (Option.map (fun w => (.inr (w) : ((Int32 × g_S) ⊕ (Int32 × g_S)))) (f142_49 s p1 p2 x3 x4)) else ((f138 s (s 199 4)).bind fun v4 => if 100000 < (((10 * x4) + v4) - 48) then (f142_41 s p1 p2 x3 100000) else (f142_41 s p1 p2 x3 (((10 * x4) + v4) - 48))))
theorem P142_18 {d ex : Nat} {rr : m_R} {s : g_S} {p1 : Int32} {p2 : Int32} {x3 : Int32} {x4 : Int32}   {z : ((Int32 × g_S) ⊕ (Int32 × g_S))} (H : f142_18 s p1 p2 x3 x4 = some z) (hd : 14 ≤ d) (K0 : ∀ S : Int32 × g_S, z = .inl S → n_R X (d + 1) 142 18 [some (.ref 199), some (.int p1), some (.int p2), some (.int x3), some (.int S.1)] [] (g_M S.2 ex) rr) (Kr : ∀ q, z = .inr (q) → g_rSI q ex = rr) : n_R X (d + 1) 142 18 [some (.ref 199), some (.int p1), some (.int p2), some (.int x3), some (.int x4)] [] (g_M s ex) rr := by
  unfold f142_18 at H
  refine g_go 2 md_142 (i1 := 20) rfl ?_
  refine g_getf (n_q md_142 rfl) t_199 rfl ?_
  obtain ⟨v1, hv1, H⟩ := g_bind H
  refine n_callv (n_q md_142 rfl) (As := [.ref 199, .int (s 199 4)]) (rest := []) rfl rfl (Nat.le_of_ble_eq_true rfl) rfl (g_recv (b := 0) rfl t_199 rfl) (C138 (by omega) hv1) ?_
  obtain ⟨v2, hv2, H⟩ := g_bind H
  refine n_callv (n_q md_142 rfl) (As := [.int v1]) (rest := []) rfl rfl (Nat.le_of_ble_eq_true rfl) rfl rfl (C141 (by omega) hv2) ?_
  by_cases h3 : v2 = 0
  · rw [if_pos h3] at H
    refine n_ifT (n_q md_142 rfl) (decide_eq_true h3) ?_
    obtain ⟨w, hw, H⟩ := g_mapp H
    subst H
    rw [← Kr _ rfl]
    exact P142_49 hw hd
  · rw [if_neg h3] at H
    refine n_ifF (n_q md_142 rfl) (fun e1 => h3 (of_decide_eq_true e1)) ?_
    refine g_go 5 md_142 (i1 := 29) rfl ?_
    refine g_getf (n_q md_142 rfl) t_199 rfl ?_
    obtain ⟨v4, hv4, H⟩ := g_bind H
    refine n_callv (n_q md_142 rfl) (As := [.ref 199, .int (s 199 4)]) (rest := [.int (10 * x4)]) rfl rfl (Nat.le_of_ble_eq_true rfl) rfl (g_recv (b := 0) rfl t_199 rfl) (C138 (by omega) hv4) ?_
    refine g_go 6 md_142 (i1 := 37) (ls1 := [some (.ref 199), some (.int p1), some (.int p2), some (.int x3), some (.int (((10 * x4) + v4) - 48))]) rfl ?_
    by_cases h5 : 100000 < (((10 * x4) + v4) - 48)
    · rw [if_pos h5] at H
      refine n_cmpF (n_q md_142 rfl) (fun e1 => absurd (of_decide_eq_true e1) (Int32.not_le.mpr h5)) ?_
      refine g_go 2 md_142 (i1 := 41) rfl ?_
      exact P142_41 H hd K0 Kr
    · rw [if_neg h5] at H
      refine n_cmpT (n_q md_142 rfl) (decide_eq_true (Int32.not_lt.mp h5)) ?_
      refine g_go 1 md_142 (i1 := 41) rfl ?_
      exact P142_41 H hd K0 Kr
noncomputable def f142_18L (s : g_S) (p1 : Int32) (p2 : Int32) (x3 : Int32) (x4 : Int32) : Option (Int32 × g_S) := g_run (fun S : Int32 × g_S => f142_18 S.2 p1 p2 x3 S.1) (x4, s)
theorem f142_18L_eq (s : g_S) (p1 : Int32) (p2 : Int32) (x3 : Int32) (x4 : Int32) : f142_18L s p1 p2 x3 x4 = g_st (f142_18 s p1 p2 x3 x4) (fun S => f142_18L S.2 p1 p2 x3 S.1) := by
  unfold f142_18L
  exact g_run_eq _ _
theorem P142_18L {d ex : Nat} {s : g_S} {p1 : Int32} {p2 : Int32} {x3 : Int32} {x4 : Int32}   {z : (Int32 × g_S)} (H : f142_18L s p1 p2 x3 x4 = some z) (hd : 14 ≤ d)  : n_R X (d + 1) 142 18 [some (.ref 199), some (.int p1), some (.int p2), some (.int x3), some (.int x4)] [] (g_M s ex) (g_rSI z ex) := by
  unfold f142_18L at H
  refine g_rs (Q := fun S => n_R X (d + 1) 142 18 [some (.ref 199), some (.int p1), some (.int p2), some (.int x3), some (.int S.1)] [] (g_M S.2 ex) (g_rSI z ex)) H ?_
  intro S w hb K0 KK
  refine P142_18 hb hd ?_ ?_
  · exact fun S1 e1 => K0 S1 e1
  · exact fun q e1 => by rw [KK q e1]
noncomputable def f142 (s : g_S) (p1 : Int32) (p2 : Int32) : Option (Int32 × g_S) := ((f139 s).bind fun s2 => (f138 s2 (s2 199 4)).bind fun v3 => (f141 s2 v3).bind fun v4 => if v4 = 0 then ((f140 s2 1 (s2 199 4)).bind fun s7 => f142_18L s7 p1 p2 (s2 199 4) 0) else (f142_18L s2 p1 p2 (s2 199 4) 0))
theorem C142 {d ex : Nat} {s : g_S} {p1 : Int32} {p2 : Int32}  {z : Int32 × g_S} (hd : 14 < d) (H : f142 s p1 p2 = some z) : n_C X d 142 [.ref 199, .int p1, .int p2] (g_M s ex) (g_rSI z ex) := by
  obtain ⟨d, rfl⟩ : ∃ d1, d = d1 + 1 := ⟨d - 1, by omega⟩
  replace hd := Nat.le_of_lt_succ hd
  refine ⟨Nat.le_of_ble_eq_true rfl, ?_⟩
  rw [md_142]
  show n_R X (d + 1) 142 0 [some (.ref 199), some (.int p1), some (.int p2), none, none] [] (g_M s ex) _
  unfold f142 at H
  refine g_go 1 md_142 (i1 := 1) rfl ?_
  obtain ⟨s2, hs2, H⟩ := g_bind H
  refine n_call (n_q md_142 rfl) (As := [.ref 199]) (rest := []) rfl rfl (Nat.le_of_ble_eq_true rfl) rfl (g_recv (b := 0) rfl t_199 rfl) (C139 (by omega) hs2) ?_
  refine g_go 1 md_142 (i1 := 3) rfl ?_
  refine g_getf (n_q md_142 rfl) t_199 rfl ?_
  refine g_go 5 md_142 (i1 := 9) (ls1 := [some (.ref 199), some (.int p1), some (.int p2), some (.int (s2 199 4)), some (.int 0)]) rfl ?_
  refine g_getf (n_q md_142 rfl) t_199 rfl ?_
  obtain ⟨v3, hv3, H⟩ := g_bind H
  refine n_callv (n_q md_142 rfl) (As := [.ref 199, .int (s2 199 4)]) (rest := []) rfl rfl (Nat.le_of_ble_eq_true rfl) rfl (g_recv (b := 0) rfl t_199 rfl) (C138 (by omega) hv3) ?_
  obtain ⟨v4, hv4, H⟩ := g_bind H
  refine n_callv (n_q md_142 rfl) (As := [.int v3]) (rest := []) rfl rfl (Nat.le_of_ble_eq_true rfl) rfl rfl (C141 (by omega) hv4) ?_
  by_cases h5 : v4 = 0
  · rw [if_pos h5] at H
    refine n_ifF (n_q md_142 rfl) (fun e1 => of_decide_eq_true e1 h5) ?_
    refine g_go 3 md_142 (i1 := 16) rfl ?_
    refine g_getf (n_q md_142 rfl) t_199 rfl ?_
    obtain ⟨s7, hs7, H⟩ := g_bind H
    refine n_call (n_q md_142 rfl) (As := [.ref 199, .int 1, .int (s2 199 4)]) (rest := []) rfl rfl (Nat.le_of_ble_eq_true rfl) rfl (g_recv (b := 0) rfl t_199 rfl) (C140 (by omega) hs7) ?_
    exact P142_18L H hd
  · rw [if_neg h5] at H
    refine n_ifT (n_q md_142 rfl) (decide_eq_true h5) ?_
    exact P142_18L H hd

theorem md_144 : m_md 144 = m_X8_isAnswers := rfl
noncomputable def f144 (s : g_S) : Option (Int32) := ((f138 s (s 199 4)).bind fun v1 => if v1 = 97 then ((f138 s ((s 199 4) + 1)).bind fun v3 => if v3 = 110 then ((f138 s ((s 199 4) + 2)).bind fun v5 => if v5 = 115 then ((f138 s ((s 199 4) + 3)).bind fun v7 => if v7 = 119 then ((f138 s ((s 199 4) + 4)).bind fun v9 => if v9 = 101 then ((f138 s ((s 199 4) + 5)).bind fun v11 => if v11 = 114 then ((f138 s ((s 199 4) + 6)).bind fun v13 => if v13 = 115 then (some 1) else (some 0)) else (some 0)) else (some 0)) else (some 0)) else (some 0)) else (some 0)) else (some 0))
theorem C144 {d ex : Nat} {s : g_S}  {z : Int32} (hd : 13 < d) (H : f144 s = some z) : n_C X d 144 [.ref 199] (g_M s ex) (g_rPI s z ex) := by
  obtain ⟨d, rfl⟩ : ∃ d1, d = d1 + 1 := ⟨d - 1, by omega⟩
  replace hd := Nat.le_of_lt_succ hd
  refine ⟨Nat.le_of_ble_eq_true rfl, ?_⟩
  rw [md_144]
  show n_R X (d + 1) 144 0 [some (.ref 199)] [] (g_M s ex) _
  unfold f144 at H
  refine g_go 2 md_144 (i1 := 2) rfl ?_
  refine g_getf (n_q md_144 rfl) t_199 rfl ?_
  obtain ⟨v1, hv1, H⟩ := g_bind H
  refine n_callv (n_q md_144 rfl) (As := [.ref 199, .int (s 199 4)]) (rest := []) rfl rfl (Nat.le_of_ble_eq_true rfl) rfl (g_recv (b := 0) rfl t_199 rfl) (C138 (by omega) hv1) ?_
  refine g_go 1 md_144 (i1 := 5) rfl ?_
  by_cases h2 : v1 = 97
  · rw [if_pos h2] at H
    refine n_cmpF (n_q md_144 rfl) (fun e1 => of_decide_eq_true e1 h2) ?_
    refine g_go 2 md_144 (i1 := 8) rfl ?_
    refine g_getf (n_q md_144 rfl) t_199 rfl ?_
    refine g_go 2 md_144 (i1 := 11) rfl ?_
    obtain ⟨v3, hv3, H⟩ := g_bind H
    refine n_callv (n_q md_144 rfl) (As := [.ref 199, .int ((s 199 4) + 1)]) (rest := []) rfl rfl (Nat.le_of_ble_eq_true rfl) rfl (g_recv (b := 0) rfl t_199 rfl) (C138 (by omega) hv3) ?_
    refine g_go 1 md_144 (i1 := 13) rfl ?_
    by_cases h4 : v3 = 110
    · rw [if_pos h4] at H
      refine n_cmpF (n_q md_144 rfl) (fun e1 => of_decide_eq_true e1 h4) ?_
      refine g_go 2 md_144 (i1 := 16) rfl ?_
      refine g_getf (n_q md_144 rfl) t_199 rfl ?_
      refine g_go 2 md_144 (i1 := 19) rfl ?_
      obtain ⟨v5, hv5, H⟩ := g_bind H
      refine n_callv (n_q md_144 rfl) (As := [.ref 199, .int ((s 199 4) + 2)]) (rest := []) rfl rfl (Nat.le_of_ble_eq_true rfl) rfl (g_recv (b := 0) rfl t_199 rfl) (C138 (by omega) hv5) ?_
      refine g_go 1 md_144 (i1 := 21) rfl ?_
      by_cases h6 : v5 = 115
      · rw [if_pos h6] at H
        refine n_cmpF (n_q md_144 rfl) (fun e1 => of_decide_eq_true e1 h6) ?_
        refine g_go 2 md_144 (i1 := 24) rfl ?_
        refine g_getf (n_q md_144 rfl) t_199 rfl ?_
        refine g_go 2 md_144 (i1 := 27) rfl ?_
        obtain ⟨v7, hv7, H⟩ := g_bind H
        refine n_callv (n_q md_144 rfl) (As := [.ref 199, .int ((s 199 4) + 3)]) (rest := []) rfl rfl (Nat.le_of_ble_eq_true rfl) rfl (g_recv (b := 0) rfl t_199 rfl) (C138 (by omega) hv7) ?_
        refine g_go 1 md_144 (i1 := 29) rfl ?_
        by_cases h8 : v7 = 119
        · rw [if_pos h8] at H
          refine n_cmpF (n_q md_144 rfl) (fun e1 => of_decide_eq_true e1 h8) ?_
          refine g_go 2 md_144 (i1 := 32) rfl ?_
          refine g_getf (n_q md_144 rfl) t_199 rfl ?_
          refine g_go 2 md_144 (i1 := 35) rfl ?_
          obtain ⟨v9, hv9, H⟩ := g_bind H
          refine n_callv (n_q md_144 rfl) (As := [.ref 199, .int ((s 199 4) + 4)]) (rest := []) rfl rfl (Nat.le_of_ble_eq_true rfl) rfl (g_recv (b := 0) rfl t_199 rfl) (C138 (by omega) hv9) ?_
          refine g_go 1 md_144 (i1 := 37) rfl ?_
          by_cases h10 : v9 = 101
          · rw [if_pos h10] at H
            refine n_cmpF (n_q md_144 rfl) (fun e1 => of_decide_eq_true e1 h10) ?_
            refine g_go 2 md_144 (i1 := 40) rfl ?_
            refine g_getf (n_q md_144 rfl) t_199 rfl ?_
            refine g_go 2 md_144 (i1 := 43) rfl ?_
            obtain ⟨v11, hv11, H⟩ := g_bind H
            refine n_callv (n_q md_144 rfl) (As := [.ref 199, .int ((s 199 4) + 5)]) (rest := []) rfl rfl (Nat.le_of_ble_eq_true rfl) rfl (g_recv (b := 0) rfl t_199 rfl) (C138 (by omega) hv11) ?_
            refine g_go 1 md_144 (i1 := 45) rfl ?_
            by_cases h12 : v11 = 114
            · rw [if_pos h12] at H
              refine n_cmpF (n_q md_144 rfl) (fun e1 => of_decide_eq_true e1 h12) ?_
              refine g_go 2 md_144 (i1 := 48) rfl ?_
              refine g_getf (n_q md_144 rfl) t_199 rfl ?_
              refine g_go 2 md_144 (i1 := 51) rfl ?_
              obtain ⟨v13, hv13, H⟩ := g_bind H
              refine n_callv (n_q md_144 rfl) (As := [.ref 199, .int ((s 199 4) + 6)]) (rest := []) rfl rfl (Nat.le_of_ble_eq_true rfl) rfl (g_recv (b := 0) rfl t_199 rfl) (C138 (by omega) hv13) ?_
              refine g_go 1 md_144 (i1 := 53) rfl ?_
              by_cases h14 : v13 = 115
              · rw [if_pos h14] at H
                refine n_cmpF (n_q md_144 rfl) (fun e1 => of_decide_eq_true e1 h14) ?_
                refine g_go 2 md_144 (i1 := 57) rfl ?_
                cases H
                exact n_iret (n_q md_144 rfl) (Or.inr rfl)
              · rw [if_neg h14] at H
                refine n_cmpT (n_q md_144 rfl) (decide_eq_true h14) ?_
                refine g_go 1 md_144 (i1 := 57) rfl ?_
                cases H
                exact n_iret (n_q md_144 rfl) (Or.inr rfl)
            · rw [if_neg h12] at H
              refine n_cmpT (n_q md_144 rfl) (decide_eq_true h12) ?_
              refine g_go 1 md_144 (i1 := 57) rfl ?_
              cases H
              exact n_iret (n_q md_144 rfl) (Or.inr rfl)
          · rw [if_neg h10] at H
            refine n_cmpT (n_q md_144 rfl) (decide_eq_true h10) ?_
            refine g_go 1 md_144 (i1 := 57) rfl ?_
            cases H
            exact n_iret (n_q md_144 rfl) (Or.inr rfl)
        · rw [if_neg h8] at H
          refine n_cmpT (n_q md_144 rfl) (decide_eq_true h8) ?_
          refine g_go 1 md_144 (i1 := 57) rfl ?_
          cases H
          exact n_iret (n_q md_144 rfl) (Or.inr rfl)
      · rw [if_neg h6] at H
        refine n_cmpT (n_q md_144 rfl) (decide_eq_true h6) ?_
        refine g_go 1 md_144 (i1 := 57) rfl ?_
        cases H
        exact n_iret (n_q md_144 rfl) (Or.inr rfl)
    · rw [if_neg h4] at H
      refine n_cmpT (n_q md_144 rfl) (decide_eq_true h4) ?_
      refine g_go 1 md_144 (i1 := 57) rfl ?_
      cases H
      exact n_iret (n_q md_144 rfl) (Or.inr rfl)
  · rw [if_neg h2] at H
    refine n_cmpT (n_q md_144 rfl) (decide_eq_true h2) ?_
    refine g_go 1 md_144 (i1 := 57) rfl ?_
    cases H
    exact n_iret (n_q md_144 rfl) (Or.inr rfl)

theorem md_143 : m_md 143 = m_X8_wordHere := rfl
noncomputable def f143_44 (s : g_S) (x1 : Int32) (x2 : Int32) : Option (Int32 × g_S) := (if x2 < 7 then (some ((x1, s))) else (if x2 = 7 then ((f144 s).bind fun v3 => if v3 = 0 then (some (((-1), s))) else (some (((-2), s)))) else (some (((-1), s)))))
theorem P143_44 {d ex : Nat} {s : g_S} {x1 : Int32} {x2 : Int32}   {z : (Int32 × g_S)} (H : f143_44 s x1 x2 = some z) (hd : 14 ≤ d)  : n_R X (d + 1) 143 44 [some (.ref 199), some (.int x1), some (.int x2)] [] (g_M s ex) (g_rSI z ex) := by
  unfold f143_44 at H
  refine g_go 2 md_143 (i1 := 46) rfl ?_
  by_cases h1 : x2 < 7
  · rw [if_pos h1] at H
    refine n_cmpF (n_q md_143 rfl) (fun e1 => absurd (of_decide_eq_true e1) (Int32.not_le.mpr h1)) ?_
    refine g_go 2 md_143 (i1 := 58) rfl ?_
    cases H
    exact n_iret (n_q md_143 rfl) (Or.inl rfl)
  · rw [if_neg h1] at H
    refine n_cmpT (n_q md_143 rfl) (decide_eq_true (Int32.not_lt.mp h1)) ?_
    refine g_go 2 md_143 (i1 := 51) rfl ?_
    by_cases h2 : x2 = 7
    · rw [if_pos h2] at H
      refine n_cmpF (n_q md_143 rfl) (fun e1 => of_decide_eq_true e1 h2) ?_
      refine g_go 1 md_143 (i1 := 53) rfl ?_
      obtain ⟨v3, hv3, H⟩ := g_bind H
      refine n_callv (n_q md_143 rfl) (As := [.ref 199]) (rest := []) rfl rfl (Nat.le_of_ble_eq_true rfl) rfl (g_recv (b := 0) rfl t_199 rfl) (C144 (by omega) hv3) ?_
      by_cases h4 : v3 = 0
      · rw [if_pos h4] at H
        refine n_ifT (n_q md_143 rfl) (decide_eq_true h4) ?_
        refine g_go 1 md_143 (i1 := 58) rfl ?_
        cases H
        exact n_iret (n_q md_143 rfl) (Or.inl rfl)
      · rw [if_neg h4] at H
        refine n_ifF (n_q md_143 rfl) (fun e1 => h4 (of_decide_eq_true e1)) ?_
        refine g_go 2 md_143 (i1 := 58) rfl ?_
        cases H
        exact n_iret (n_q md_143 rfl) (Or.inl rfl)
    · rw [if_neg h2] at H
      refine n_cmpT (n_q md_143 rfl) (decide_eq_true h2) ?_
      refine g_go 1 md_143 (i1 := 58) rfl ?_
      cases H
      exact n_iret (n_q md_143 rfl) (Or.inl rfl)
noncomputable def f143_6 (s : g_S) (x1 : Int32) (x2 : Int32) : Option ((Int32 × Int32) ⊕ (Int32 × g_S)) := ((f138 s ((s 199 4) + x2)).bind fun v1 => if v1 < 97 then (Option.map (fun w => (.inr (w) : ((Int32 × Int32) ⊕ (Int32 × g_S)))) (f143_44 s x1 x2)) else ((f138 s ((s 199 4) + x2)).bind fun v3 => if 122 < v3 then (Option.map (fun w => (.inr (w) : ((Int32 × Int32) ⊕ (Int32 × g_S)))) (f143_44 s x1 x2)) else (if x2 < 6 then ((f138 s ((s 199 4) + x2)).bind fun v6 => some (.inl ((((27 * x1) + v6) - 97) + 1, x2 + 1))) else (some (.inl (x1, x2 + 1))))))
theorem P143_6 {d ex : Nat} {rr : m_R} {s : g_S} {x1 : Int32} {x2 : Int32}   {z : ((Int32 × Int32) ⊕ (Int32 × g_S))} (H : f143_6 s x1 x2 = some z) (hd : 14 ≤ d) (K0 : ∀ S : Int32 × Int32, z = .inl S → n_R X (d + 1) 143 6 [some (.ref 199), some (.int S.1), some (.int S.2)] [] (g_M s ex) rr) (Kr : ∀ q, z = .inr (q) → g_rSI q ex = rr) : n_R X (d + 1) 143 6 [some (.ref 199), some (.int x1), some (.int x2)] [] (g_M s ex) rr := by
  unfold f143_6 at H
  refine g_go 2 md_143 (i1 := 8) rfl ?_
  refine g_getf (n_q md_143 rfl) t_199 rfl ?_
  refine g_go 2 md_143 (i1 := 11) rfl ?_
  obtain ⟨v1, hv1, H⟩ := g_bind H
  refine n_callv (n_q md_143 rfl) (As := [.ref 199, .int ((s 199 4) + x2)]) (rest := []) rfl rfl (Nat.le_of_ble_eq_true rfl) rfl (g_recv (b := 0) rfl t_199 rfl) (C138 (by omega) hv1) ?_
  refine g_go 1 md_143 (i1 := 13) rfl ?_
  by_cases h2 : v1 < 97
  · rw [if_pos h2] at H
    refine n_cmpT (n_q md_143 rfl) (decide_eq_true h2) ?_
    obtain ⟨w, hw, H⟩ := g_mapp H
    subst H
    rw [← Kr _ rfl]
    exact P143_44 hw hd
  · rw [if_neg h2] at H
    refine n_cmpF (n_q md_143 rfl) (fun e1 => h2 (of_decide_eq_true e1)) ?_
    refine g_go 2 md_143 (i1 := 16) rfl ?_
    refine g_getf (n_q md_143 rfl) t_199 rfl ?_
    refine g_go 2 md_143 (i1 := 19) rfl ?_
    obtain ⟨v3, hv3, H⟩ := g_bind H
    refine n_callv (n_q md_143 rfl) (As := [.ref 199, .int ((s 199 4) + x2)]) (rest := []) rfl rfl (Nat.le_of_ble_eq_true rfl) rfl (g_recv (b := 0) rfl t_199 rfl) (C138 (by omega) hv3) ?_
    refine g_go 1 md_143 (i1 := 21) rfl ?_
    by_cases h4 : 122 < v3
    · rw [if_pos h4] at H
      refine n_cmpT (n_q md_143 rfl) (decide_eq_true h4) ?_
      obtain ⟨w, hw, H⟩ := g_mapp H
      subst H
      rw [← Kr _ rfl]
      exact P143_44 hw hd
    · rw [if_neg h4] at H
      refine n_cmpF (n_q md_143 rfl) (fun e1 => h4 (of_decide_eq_true e1)) ?_
      refine g_go 2 md_143 (i1 := 24) rfl ?_
      by_cases h5 : x2 < 6
      · rw [if_pos h5] at H
        refine n_cmpF (n_q md_143 rfl) (fun e1 => absurd (of_decide_eq_true e1) (Int32.not_le.mpr h5)) ?_
        refine g_go 5 md_143 (i1 := 30) rfl ?_
        refine g_getf (n_q md_143 rfl) t_199 rfl ?_
        refine g_go 2 md_143 (i1 := 33) rfl ?_
        obtain ⟨v6, hv6, H⟩ := g_bind H
        refine n_callv (n_q md_143 rfl) (As := [.ref 199, .int ((s 199 4) + x2)]) (rest := [.int (27 * x1)]) rfl rfl (Nat.le_of_ble_eq_true rfl) rfl (g_recv (b := 0) rfl t_199 rfl) (C138 (by omega) hv6) ?_
        refine g_go 9 md_143 (i1 := 6) (ls1 := [some (.ref 199), some (.int ((((27 * x1) + v6) - 97) + 1)), some (.int (x2 + 1))]) rfl ?_
        cases H
        exact K0 ((((27 * x1) + v6) - 97) + 1, x2 + 1) rfl
      · rw [if_neg h5] at H
        refine n_cmpT (n_q md_143 rfl) (decide_eq_true (Int32.not_lt.mp h5)) ?_
        refine g_go 4 md_143 (i1 := 6) (ls1 := [some (.ref 199), some (.int x1), some (.int (x2 + 1))]) rfl ?_
        cases H
        exact K0 (x1, x2 + 1) rfl
noncomputable def f143_6L (s : g_S) (x1 : Int32) (x2 : Int32) : Option (Int32 × g_S) := g_run (fun S : Int32 × Int32 => f143_6 s S.1 S.2) (x1, x2)
theorem f143_6L_eq (s : g_S) (x1 : Int32) (x2 : Int32) : f143_6L s x1 x2 = g_st (f143_6 s x1 x2) (fun S => f143_6L s S.1 S.2) := by
  unfold f143_6L
  exact g_run_eq _ _
theorem P143_6L {d ex : Nat} {s : g_S} {x1 : Int32} {x2 : Int32}   {z : (Int32 × g_S)} (H : f143_6L s x1 x2 = some z) (hd : 14 ≤ d)  : n_R X (d + 1) 143 6 [some (.ref 199), some (.int x1), some (.int x2)] [] (g_M s ex) (g_rSI z ex) := by
  unfold f143_6L at H
  refine g_rs (Q := fun S => n_R X (d + 1) 143 6 [some (.ref 199), some (.int S.1), some (.int S.2)] [] (g_M s ex) (g_rSI z ex)) H ?_
  intro S w hb K0 KK
  refine P143_6 hb hd ?_ ?_
  · exact fun S1 e1 => K0 S1 e1
  · exact fun q e1 => by rw [KK q e1]
noncomputable def f143 (s : g_S) : Option (Int32 × g_S) := ((f139 s).bind fun s2 => f143_6L s2 0 0)
theorem C143 {d ex : Nat} {s : g_S}  {z : Int32 × g_S} (hd : 14 < d) (H : f143 s = some z) : n_C X d 143 [.ref 199] (g_M s ex) (g_rSI z ex) := by
  obtain ⟨d, rfl⟩ : ∃ d1, d = d1 + 1 := ⟨d - 1, by omega⟩
  replace hd := Nat.le_of_lt_succ hd
  refine ⟨Nat.le_of_ble_eq_true rfl, ?_⟩
  rw [md_143]
  show n_R X (d + 1) 143 0 [some (.ref 199), none, none] [] (g_M s ex) _
  unfold f143 at H
  refine g_go 1 md_143 (i1 := 1) rfl ?_
  obtain ⟨s2, hs2, H⟩ := g_bind H
  refine n_call (n_q md_143 rfl) (As := [.ref 199]) (rest := []) rfl rfl (Nat.le_of_ble_eq_true rfl) rfl (g_recv (b := 0) rfl t_199 rfl) (C139 (by omega) hs2) ?_
  refine g_go 4 md_143 (i1 := 6) (ls1 := [some (.ref 199), some (.int 0), some (.int 0)]) rfl ?_
  exact P143_6L H hd

theorem md_145 : m_md 145 = m_X8_word := rfl
noncomputable def f145_35 (s : g_S) (p0 : Int32) (p1 : Int32) (p2 : Int32) (p3 : Int32) (p4 : Int32) (p5 : Int32) (y0 : Int32) : Option (Int32) := (if p5 = 0 then (some y0) else (some ((27 * y0) + p5)))
theorem P145_35 {d ex : Nat} {s : g_S} {p0 : Int32} {p1 : Int32} {p2 : Int32} {p3 : Int32} {p4 : Int32} {p5 : Int32} {y0 : Int32} {u6 : Option Value}   {z : (Int32)} (H : f145_35 s p0 p1 p2 p3 p4 p5 y0 = some z) (hd : 12 ≤ d)  : n_R X (d + 1) 145 35 [some (.int p0), some (.int p1), some (.int p2), some (.int p3), some (.int p4), some (.int p5), u6] [.int y0] (g_M s ex) (g_rPI s z ex) := by
  unfold f145_35 at H
  refine g_go 2 md_145 (i1 := 37) (ls1 := [some (.int p0), some (.int p1), some (.int p2), some (.int p3), some (.int p4), some (.int p5), some (.int y0)]) rfl ?_
  by_cases h1 : p5 = 0
  · rw [if_pos h1] at H
    refine n_ifF (n_q md_145 rfl) (fun e1 => of_decide_eq_true e1 h1) ?_
    refine g_go 2 md_145 (i1 := 45) rfl ?_
    cases H
    exact n_iret (n_q md_145 rfl) (Or.inl rfl)
  · rw [if_neg h1] at H
    refine n_ifT (n_q md_145 rfl) (decide_eq_true h1) ?_
    refine g_go 5 md_145 (i1 := 45) rfl ?_
    cases H
    exact n_iret (n_q md_145 rfl) (Or.inl rfl)
noncomputable def f145_25 (s : g_S) (p0 : Int32) (p1 : Int32) (p2 : Int32) (p3 : Int32) (p4 : Int32) (p5 : Int32) (y0 : Int32) : Option (Int32) := (if p4 = 0 then (f145_35 s p0 p1 p2 p3 p4 p5 y0) else (f145_35 s p0 p1 p2 p3 p4 p5 ((27 * y0) + p4)))
theorem P145_25 {d ex : Nat} {s : g_S} {p0 : Int32} {p1 : Int32} {p2 : Int32} {p3 : Int32} {p4 : Int32} {p5 : Int32} {y0 : Int32} {u6 : Option Value}   {z : (Int32)} (H : f145_25 s p0 p1 p2 p3 p4 p5 y0 = some z) (hd : 12 ≤ d)  : n_R X (d + 1) 145 25 [some (.int p0), some (.int p1), some (.int p2), some (.int p3), some (.int p4), some (.int p5), u6] [.int y0] (g_M s ex) (g_rPI s z ex) := by
  unfold f145_25 at H
  refine g_go 2 md_145 (i1 := 27) (ls1 := [some (.int p0), some (.int p1), some (.int p2), some (.int p3), some (.int p4), some (.int p5), some (.int y0)]) rfl ?_
  by_cases h1 : p4 = 0
  · rw [if_pos h1] at H
    refine n_ifF (n_q md_145 rfl) (fun e1 => of_decide_eq_true e1 h1) ?_
    refine g_go 2 md_145 (i1 := 35) rfl ?_
    exact P145_35 H hd
  · rw [if_neg h1] at H
    refine n_ifT (n_q md_145 rfl) (decide_eq_true h1) ?_
    refine g_go 5 md_145 (i1 := 35) rfl ?_
    exact P145_35 H hd
noncomputable def f145_15 (s : g_S) (p0 : Int32) (p1 : Int32) (p2 : Int32) (p3 : Int32) (p4 : Int32) (p5 : Int32) (y0 : Int32) : Option (Int32) := (if p3 = 0 then (f145_25 s p0 p1 p2 p3 p4 p5 y0) else (f145_25 s p0 p1 p2 p3 p4 p5 ((27 * y0) + p3)))
theorem P145_15 {d ex : Nat} {s : g_S} {p0 : Int32} {p1 : Int32} {p2 : Int32} {p3 : Int32} {p4 : Int32} {p5 : Int32} {y0 : Int32} {u6 : Option Value}   {z : (Int32)} (H : f145_15 s p0 p1 p2 p3 p4 p5 y0 = some z) (hd : 12 ≤ d)  : n_R X (d + 1) 145 15 [some (.int p0), some (.int p1), some (.int p2), some (.int p3), some (.int p4), some (.int p5), u6] [.int y0] (g_M s ex) (g_rPI s z ex) := by
  unfold f145_15 at H
  refine g_go 2 md_145 (i1 := 17) (ls1 := [some (.int p0), some (.int p1), some (.int p2), some (.int p3), some (.int p4), some (.int p5), some (.int y0)]) rfl ?_
  by_cases h1 : p3 = 0
  · rw [if_pos h1] at H
    refine n_ifF (n_q md_145 rfl) (fun e1 => of_decide_eq_true e1 h1) ?_
    refine g_go 2 md_145 (i1 := 25) rfl ?_
    exact P145_25 H hd
  · rw [if_neg h1] at H
    refine n_ifT (n_q md_145 rfl) (decide_eq_true h1) ?_
    refine g_go 5 md_145 (i1 := 25) rfl ?_
    exact P145_25 H hd
noncomputable def f145 (s : g_S) (p0 : Int32) (p1 : Int32) (p2 : Int32) (p3 : Int32) (p4 : Int32) (p5 : Int32) : Option (Int32) := (if p2 = 0 then (f145_15 s p0 p1 p2 p3 p4 p5 ((27 * p0) + p1)) else (f145_15 s p0 p1 p2 p3 p4 p5 ((27 * ((27 * p0) + p1)) + p2)))
theorem C145 {d ex : Nat} {s : g_S} {p0 : Int32} {p1 : Int32} {p2 : Int32} {p3 : Int32} {p4 : Int32} {p5 : Int32}  {z : Int32} (hd : 12 < d) (H : f145 s p0 p1 p2 p3 p4 p5 = some z) : n_C X d 145 [.int p0, .int p1, .int p2, .int p3, .int p4, .int p5] (g_M s ex) (g_rPI s z ex) := by
  obtain ⟨d, rfl⟩ : ∃ d1, d = d1 + 1 := ⟨d - 1, by omega⟩
  replace hd := Nat.le_of_lt_succ hd
  refine ⟨Nat.le_of_ble_eq_true rfl, ?_⟩
  rw [md_145]
  show n_R X (d + 1) 145 0 [some (.int p0), some (.int p1), some (.int p2), some (.int p3), some (.int p4), some (.int p5), none] [] (g_M s ex) _
  unfold f145 at H
  refine g_go 7 md_145 (i1 := 7) (ls1 := [some (.int p0), some (.int p1), some (.int p2), some (.int p3), some (.int p4), some (.int p5), some (.int ((27 * p0) + p1))]) rfl ?_
  by_cases h1 : p2 = 0
  · rw [if_pos h1] at H
    refine n_ifF (n_q md_145 rfl) (fun e1 => of_decide_eq_true e1 h1) ?_
    refine g_go 2 md_145 (i1 := 15) rfl ?_
    exact P145_15 H hd
  · rw [if_neg h1] at H
    refine n_ifT (n_q md_145 rfl) (decide_eq_true h1) ?_
    refine g_go 5 md_145 (i1 := 15) rfl ?_
    exact P145_15 H hd

theorem md_146 : m_md 146 = m_X8_isWord := rfl
noncomputable def f146 (s : g_S) (p1 : Int32) (p2 : Int32) (p3 : Int32) (p4 : Int32) (p5 : Int32) (p6 : Int32) : Option (Int32 × g_S) := (g_bd (f143 s) fun v1 s2 => (f145 s2 p1 p2 p3 p4 p5 p6).bind fun v3 => if v1 = v3 then (some ((1, s2))) else (some ((0, s2))))
theorem C146 {d ex : Nat} {s : g_S} {p1 : Int32} {p2 : Int32} {p3 : Int32} {p4 : Int32} {p5 : Int32} {p6 : Int32}  {z : Int32 × g_S} (hd : 15 < d) (H : f146 s p1 p2 p3 p4 p5 p6 = some z) : n_C X d 146 [.ref 199, .int p1, .int p2, .int p3, .int p4, .int p5, .int p6] (g_M s ex) (g_rSI z ex) := by
  obtain ⟨d, rfl⟩ : ∃ d1, d = d1 + 1 := ⟨d - 1, by omega⟩
  replace hd := Nat.le_of_lt_succ hd
  refine ⟨Nat.le_of_ble_eq_true rfl, ?_⟩
  rw [md_146]
  show n_R X (d + 1) 146 0 [some (.ref 199), some (.int p1), some (.int p2), some (.int p3), some (.int p4), some (.int p5), some (.int p6)] [] (g_M s ex) _
  unfold f146 at H
  refine g_go 1 md_146 (i1 := 1) rfl ?_
  obtain ⟨v1, s2, hv1, H⟩ := g_bdp H
  refine n_callv (n_q md_146 rfl) (As := [.ref 199]) (rest := []) rfl rfl (Nat.le_of_ble_eq_true rfl) rfl (g_recv (b := 0) rfl t_199 rfl) (C143 (by omega) hv1) ?_
  refine g_go 6 md_146 (i1 := 8) rfl ?_
  obtain ⟨v3, hv3, H⟩ := g_bind H
  refine n_callv (n_q md_146 rfl) (As := [.int p1, .int p2, .int p3, .int p4, .int p5, .int p6]) (rest := [.int v1]) rfl rfl (Nat.le_of_ble_eq_true rfl) rfl rfl (C145 (by omega) hv3) ?_
  by_cases h4 : v1 = v3
  · rw [if_pos h4] at H
    refine n_cmpF (n_q md_146 rfl) (fun e1 => of_decide_eq_true e1 h4) ?_
    refine g_go 2 md_146 (i1 := 13) rfl ?_
    cases H
    exact n_iret (n_q md_146 rfl) (Or.inr rfl)
  · rw [if_neg h4] at H
    refine n_cmpT (n_q md_146 rfl) (decide_eq_true h4) ?_
    refine g_go 1 md_146 (i1 := 13) rfl ?_
    cases H
    exact n_iret (n_q md_146 rfl) (Or.inr rfl)

theorem md_147 : m_md 147 = m_X8_skipWord := rfl
noncomputable def f147_0 (s : g_S) : Option ((g_S) ⊕ (g_S)) := ((f138 s (s 199 4)).bind fun v1 => if v1 < 97 then (some (.inr (s))) else ((f138 s (s 199 4)).bind fun v3 => if 122 < v3 then (some (.inr (s))) else (g_let (g_w s 199 4 ((s 199 4) + 1)) fun s5 => some (.inl (s5)))))
theorem P147_0 {d ex : Nat} {rr : m_R} {s : g_S}   {z : ((g_S) ⊕ (g_S))} (H : f147_0 s = some z) (hd : 13 ≤ d) (K0 : ∀ S : g_S, z = .inl S → n_R X (d + 1) 147 0 [some (.ref 199)] [] (g_M S ex) rr) (Kr : ∀ q, z = .inr (q) → g_rSV q ex = rr) : n_R X (d + 1) 147 0 [some (.ref 199)] [] (g_M s ex) rr := by
  unfold f147_0 at H
  refine g_go 2 md_147 (i1 := 2) rfl ?_
  refine g_getf (n_q md_147 rfl) t_199 rfl ?_
  obtain ⟨v1, hv1, H⟩ := g_bind H
  refine n_callv (n_q md_147 rfl) (As := [.ref 199, .int (s 199 4)]) (rest := []) rfl rfl (Nat.le_of_ble_eq_true rfl) rfl (g_recv (b := 0) rfl t_199 rfl) (C138 (by omega) hv1) ?_
  refine g_go 1 md_147 (i1 := 5) rfl ?_
  by_cases h2 : v1 < 97
  · rw [if_pos h2] at H
    refine n_cmpT (n_q md_147 rfl) (decide_eq_true h2) ?_
    cases H
    rw [← Kr _ rfl]
    exact n_end (n_q md_147 rfl) (fun _ => rfl)
  · rw [if_neg h2] at H
    refine n_cmpF (n_q md_147 rfl) (fun e1 => h2 (of_decide_eq_true e1)) ?_
    refine g_go 2 md_147 (i1 := 8) rfl ?_
    refine g_getf (n_q md_147 rfl) t_199 rfl ?_
    obtain ⟨v3, hv3, H⟩ := g_bind H
    refine n_callv (n_q md_147 rfl) (As := [.ref 199, .int (s 199 4)]) (rest := []) rfl rfl (Nat.le_of_ble_eq_true rfl) rfl (g_recv (b := 0) rfl t_199 rfl) (C138 (by omega) hv3) ?_
    refine g_go 1 md_147 (i1 := 11) rfl ?_
    by_cases h4 : 122 < v3
    · rw [if_pos h4] at H
      refine n_cmpT (n_q md_147 rfl) (decide_eq_true h4) ?_
      cases H
      rw [← Kr _ rfl]
      exact n_end (n_q md_147 rfl) (fun _ => rfl)
    · rw [if_neg h4] at H
      refine n_cmpF (n_q md_147 rfl) (fun e1 => h4 (of_decide_eq_true e1)) ?_
      refine g_go 2 md_147 (i1 := 14) rfl ?_
      refine g_getf (n_q md_147 rfl) t_199 rfl ?_
      refine g_go 2 md_147 (i1 := 17) rfl ?_
      obtain ⟨s5, es5, H⟩ := g_letp H
      refine g_putf (n_q md_147 rfl) t_199 rfl rfl es5 ?_
      refine g_go 1 md_147 (i1 := 0) rfl ?_
      cases H
      exact K0 (s5) rfl
noncomputable def f147_0L (s : g_S) : Option (g_S) := g_run (fun S : g_S => f147_0 S) s
theorem f147_0L_eq (s : g_S) : f147_0L s = g_st (f147_0 s) (fun S => f147_0L S) := by
  unfold f147_0L
  exact g_run_eq _ _
theorem P147_0L {d ex : Nat} {s : g_S}   {z : (g_S)} (H : f147_0L s = some z) (hd : 13 ≤ d)  : n_R X (d + 1) 147 0 [some (.ref 199)] [] (g_M s ex) (g_rSV z ex) := by
  unfold f147_0L at H
  refine g_rs (Q := fun S => n_R X (d + 1) 147 0 [some (.ref 199)] [] (g_M S ex) (g_rSV z ex)) H ?_
  intro S w hb K0 KK
  refine P147_0 hb hd ?_ ?_
  · exact fun S1 e1 => K0 S1 e1
  · exact fun q e1 => by rw [KK q e1]
noncomputable def f147 (s : g_S) : Option (g_S) := (f147_0L s)
theorem C147 {d ex : Nat} {s : g_S}  {z : g_S} (hd : 13 < d) (H : f147 s = some z) : n_C X d 147 [.ref 199] (g_M s ex) (g_rSV z ex) := by
  obtain ⟨d, rfl⟩ : ∃ d1, d = d1 + 1 := ⟨d - 1, by omega⟩
  replace hd := Nat.le_of_lt_succ hd
  refine ⟨Nat.le_of_ble_eq_true rfl, ?_⟩
  rw [md_147]
  show n_R X (d + 1) 147 0 [some (.ref 199)] [] (g_M s ex) _
  unfold f147 at H
  exact P147_0L H hd

theorem md_148 : m_md 148 = m_X8_sign := rfl
noncomputable def f148 (s : g_S) (p1 : Int32) : Option (g_S) := ((f139 s).bind fun s2 => (f138 s2 (s2 199 4)).bind fun v3 => if v3 = p1 then (g_let (g_w s2 199 4 ((s2 199 4) + 1)) fun s5 => some s5) else ((f140 s2 1 (s2 199 4)).bind fun s6 => some s6))
theorem C148 {d ex : Nat} {s : g_S} {p1 : Int32}  {z : g_S} (hd : 14 < d) (H : f148 s p1 = some z) : n_C X d 148 [.ref 199, .int p1] (g_M s ex) (g_rSV z ex) := by
  obtain ⟨d, rfl⟩ : ∃ d1, d = d1 + 1 := ⟨d - 1, by omega⟩
  replace hd := Nat.le_of_lt_succ hd
  refine ⟨Nat.le_of_ble_eq_true rfl, ?_⟩
  rw [md_148]
  show n_R X (d + 1) 148 0 [some (.ref 199), some (.int p1)] [] (g_M s ex) _
  unfold f148 at H
  refine g_go 1 md_148 (i1 := 1) rfl ?_
  obtain ⟨s2, hs2, H⟩ := g_bind H
  refine n_call (n_q md_148 rfl) (As := [.ref 199]) (rest := []) rfl rfl (Nat.le_of_ble_eq_true rfl) rfl (g_recv (b := 0) rfl t_199 rfl) (C139 (by omega) hs2) ?_
  refine g_go 2 md_148 (i1 := 4) rfl ?_
  refine g_getf (n_q md_148 rfl) t_199 rfl ?_
  obtain ⟨v3, hv3, H⟩ := g_bind H
  refine n_callv (n_q md_148 rfl) (As := [.ref 199, .int (s2 199 4)]) (rest := []) rfl rfl (Nat.le_of_ble_eq_true rfl) rfl (g_recv (b := 0) rfl t_199 rfl) (C138 (by omega) hv3) ?_
  refine g_go 1 md_148 (i1 := 7) rfl ?_
  by_cases h4 : v3 = p1
  · rw [if_pos h4] at H
    refine n_cmpF (n_q md_148 rfl) (fun e1 => of_decide_eq_true e1 h4) ?_
    refine g_go 2 md_148 (i1 := 10) rfl ?_
    refine g_getf (n_q md_148 rfl) t_199 rfl ?_
    refine g_go 2 md_148 (i1 := 13) rfl ?_
    obtain ⟨s5, es5, H⟩ := g_letp H
    refine g_putf (n_q md_148 rfl) t_199 rfl rfl es5 ?_
    refine g_go 1 md_148 (i1 := 20) rfl ?_
    cases H
    exact n_end (n_q md_148 rfl) (fun _ => rfl)
  · rw [if_neg h4] at H
    refine n_cmpT (n_q md_148 rfl) (decide_eq_true h4) ?_
    refine g_go 3 md_148 (i1 := 18) rfl ?_
    refine g_getf (n_q md_148 rfl) t_199 rfl ?_
    obtain ⟨s6, hs6, H⟩ := g_bind H
    refine n_call (n_q md_148 rfl) (As := [.ref 199, .int 1, .int (s2 199 4)]) (rest := []) rfl rfl (Nat.le_of_ble_eq_true rfl) rfl (g_recv (b := 0) rfl t_199 rfl) (C140 (by omega) hs6) ?_
    cases H
    exact n_end (n_q md_148 rfl) (fun _ => rfl)

theorem md_149 : m_md 149 = m_X8_opens := rfl
noncomputable def f149_9 (s : g_S) (p1 : Int32) : Option (g_S) := (g_let (g_w s 199 5 ((s 199 5) + 1)) fun s1 => g_let (g_w s1 199 4 ((s1 199 4) + p1)) fun s2 => some s2)
theorem P149_9 {d ex : Nat} {s : g_S} {p1 : Int32}   {z : (g_S)} (H : f149_9 s p1 = some z) (hd : 13 ≤ d)  : n_R X (d + 1) 149 9 [some (.ref 199), some (.int p1)] [] (g_M s ex) (g_rSV z ex) := by
  unfold f149_9 at H
  refine g_go 2 md_149 (i1 := 11) rfl ?_
  refine g_getf (n_q md_149 rfl) t_199 rfl ?_
  refine g_go 2 md_149 (i1 := 14) rfl ?_
  obtain ⟨s1, es1, H⟩ := g_letp H
  refine g_putf (n_q md_149 rfl) t_199 rfl rfl es1 ?_
  refine g_go 2 md_149 (i1 := 17) rfl ?_
  refine g_getf (n_q md_149 rfl) t_199 rfl ?_
  refine g_go 2 md_149 (i1 := 20) rfl ?_
  obtain ⟨s2, es2, H⟩ := g_letp H
  refine g_putf (n_q md_149 rfl) t_199 rfl rfl es2 ?_
  cases H
  exact n_end (n_q md_149 rfl) (fun _ => rfl)
noncomputable def f149 (s : g_S) (p1 : Int32) : Option (g_S) := (if (s 199 5) = 6 then ((f140 s 3 (s 199 4)).bind fun s3 => f149_9 s3 p1) else (f149_9 s p1))
theorem C149 {d ex : Nat} {s : g_S} {p1 : Int32}  {z : g_S} (hd : 13 < d) (H : f149 s p1 = some z) : n_C X d 149 [.ref 199, .int p1] (g_M s ex) (g_rSV z ex) := by
  obtain ⟨d, rfl⟩ : ∃ d1, d = d1 + 1 := ⟨d - 1, by omega⟩
  replace hd := Nat.le_of_lt_succ hd
  refine ⟨Nat.le_of_ble_eq_true rfl, ?_⟩
  rw [md_149]
  show n_R X (d + 1) 149 0 [some (.ref 199), some (.int p1)] [] (g_M s ex) _
  unfold f149 at H
  refine g_go 1 md_149 (i1 := 1) rfl ?_
  refine g_getf (n_q md_149 rfl) t_199 rfl ?_
  refine g_go 1 md_149 (i1 := 3) rfl ?_
  by_cases h1 : (s 199 5) = 6
  · rw [if_pos h1] at H
    refine n_cmpF (n_q md_149 rfl) (fun e1 => of_decide_eq_true e1 h1) ?_
    refine g_go 3 md_149 (i1 := 7) rfl ?_
    refine g_getf (n_q md_149 rfl) t_199 rfl ?_
    obtain ⟨s3, hs3, H⟩ := g_bind H
    refine n_call (n_q md_149 rfl) (As := [.ref 199, .int 3, .int (s 199 4)]) (rest := []) rfl rfl (Nat.le_of_ble_eq_true rfl) rfl (g_recv (b := 0) rfl t_199 rfl) (C140 (by omega) hs3) ?_
    exact P149_9 H hd
  · rw [if_neg h1] at H
    refine n_cmpT (n_q md_149 rfl) (decide_eq_true h1) ?_
    exact P149_9 H hd

theorem md_150 : m_md 150 = m_X8_nameHere := rfl
noncomputable def f150 (s : g_S) : Option (Int32 × g_S) := (g_bd (f146 s 6 1 21 12 20 0) fun v1 s2 => if v1 = 0 then (g_bd (f146 s2 20 8 5 18 5 0) fun v4 s5 => if v4 = 0 then (g_bd (f146 s5 21 19 5 0 0 0) fun v7 s8 => if v7 = 0 then (g_bd (f146 s8 12 1 20 5 0 0) fun v10 s11 => if v10 = 0 then (g_bd (f146 s11 16 1 19 19 5 4) fun v13 s14 => if v13 = 0 then (g_bd (f146 s14 20 5 18 13 0 0) fun v16 s17 => if v16 = 0 then (g_bd (f146 s17 22 1 12 21 5 0) fun v19 s20 => if v19 = 0 then (g_bd (f146 s20 4 1 25 19 0 0) fun v22 s23 => if v22 = 0 then (some (((-1), s23))) else (some ((7, s23)))) else (some ((6, s20)))) else (some ((5, s17)))) else (some ((4, s14)))) else (some ((3, s11)))) else (some ((2, s8)))) else (some ((1, s5)))) else (some ((0, s2))))
theorem C150 {d ex : Nat} {s : g_S}  {z : Int32 × g_S} (hd : 16 < d) (H : f150 s = some z) : n_C X d 150 [.ref 199] (g_M s ex) (g_rSI z ex) := by
  obtain ⟨d, rfl⟩ : ∃ d1, d = d1 + 1 := ⟨d - 1, by omega⟩
  replace hd := Nat.le_of_lt_succ hd
  refine ⟨Nat.le_of_ble_eq_true rfl, ?_⟩
  rw [md_150]
  show n_R X (d + 1) 150 0 [some (.ref 199)] [] (g_M s ex) _
  unfold f150 at H
  refine g_go 7 md_150 (i1 := 7) rfl ?_
  obtain ⟨v1, s2, hv1, H⟩ := g_bdp H
  refine n_callv (n_q md_150 rfl) (As := [.ref 199, .int 6, .int 1, .int 21, .int 12, .int 20, .int 0]) (rest := []) rfl rfl (Nat.le_of_ble_eq_true rfl) rfl (g_recv (b := 0) rfl t_199 rfl) (C146 (by omega) hv1) ?_
  by_cases h3 : v1 = 0
  · rw [if_pos h3] at H
    refine n_ifT (n_q md_150 rfl) (decide_eq_true h3) ?_
    refine g_go 7 md_150 (i1 := 18) rfl ?_
    obtain ⟨v4, s5, hv4, H⟩ := g_bdp H
    refine n_callv (n_q md_150 rfl) (As := [.ref 199, .int 20, .int 8, .int 5, .int 18, .int 5, .int 0]) (rest := []) rfl rfl (Nat.le_of_ble_eq_true rfl) rfl (g_recv (b := 0) rfl t_199 rfl) (C146 (by omega) hv4) ?_
    by_cases h6 : v4 = 0
    · rw [if_pos h6] at H
      refine n_ifT (n_q md_150 rfl) (decide_eq_true h6) ?_
      refine g_go 7 md_150 (i1 := 29) rfl ?_
      obtain ⟨v7, s8, hv7, H⟩ := g_bdp H
      refine n_callv (n_q md_150 rfl) (As := [.ref 199, .int 21, .int 19, .int 5, .int 0, .int 0, .int 0]) (rest := []) rfl rfl (Nat.le_of_ble_eq_true rfl) rfl (g_recv (b := 0) rfl t_199 rfl) (C146 (by omega) hv7) ?_
      by_cases h9 : v7 = 0
      · rw [if_pos h9] at H
        refine n_ifT (n_q md_150 rfl) (decide_eq_true h9) ?_
        refine g_go 7 md_150 (i1 := 40) rfl ?_
        obtain ⟨v10, s11, hv10, H⟩ := g_bdp H
        refine n_callv (n_q md_150 rfl) (As := [.ref 199, .int 12, .int 1, .int 20, .int 5, .int 0, .int 0]) (rest := []) rfl rfl (Nat.le_of_ble_eq_true rfl) rfl (g_recv (b := 0) rfl t_199 rfl) (C146 (by omega) hv10) ?_
        by_cases h12 : v10 = 0
        · rw [if_pos h12] at H
          refine n_ifT (n_q md_150 rfl) (decide_eq_true h12) ?_
          refine g_go 7 md_150 (i1 := 51) rfl ?_
          obtain ⟨v13, s14, hv13, H⟩ := g_bdp H
          refine n_callv (n_q md_150 rfl) (As := [.ref 199, .int 16, .int 1, .int 19, .int 19, .int 5, .int 4]) (rest := []) rfl rfl (Nat.le_of_ble_eq_true rfl) rfl (g_recv (b := 0) rfl t_199 rfl) (C146 (by omega) hv13) ?_
          by_cases h15 : v13 = 0
          · rw [if_pos h15] at H
            refine n_ifT (n_q md_150 rfl) (decide_eq_true h15) ?_
            refine g_go 7 md_150 (i1 := 62) rfl ?_
            obtain ⟨v16, s17, hv16, H⟩ := g_bdp H
            refine n_callv (n_q md_150 rfl) (As := [.ref 199, .int 20, .int 5, .int 18, .int 13, .int 0, .int 0]) (rest := []) rfl rfl (Nat.le_of_ble_eq_true rfl) rfl (g_recv (b := 0) rfl t_199 rfl) (C146 (by omega) hv16) ?_
            by_cases h18 : v16 = 0
            · rw [if_pos h18] at H
              refine n_ifT (n_q md_150 rfl) (decide_eq_true h18) ?_
              refine g_go 7 md_150 (i1 := 73) rfl ?_
              obtain ⟨v19, s20, hv19, H⟩ := g_bdp H
              refine n_callv (n_q md_150 rfl) (As := [.ref 199, .int 22, .int 1, .int 12, .int 21, .int 5, .int 0]) (rest := []) rfl rfl (Nat.le_of_ble_eq_true rfl) rfl (g_recv (b := 0) rfl t_199 rfl) (C146 (by omega) hv19) ?_
              by_cases h21 : v19 = 0
              · rw [if_pos h21] at H
                refine n_ifT (n_q md_150 rfl) (decide_eq_true h21) ?_
                refine g_go 7 md_150 (i1 := 84) rfl ?_
                obtain ⟨v22, s23, hv22, H⟩ := g_bdp H
                refine n_callv (n_q md_150 rfl) (As := [.ref 199, .int 4, .int 1, .int 25, .int 19, .int 0, .int 0]) (rest := []) rfl rfl (Nat.le_of_ble_eq_true rfl) rfl (g_recv (b := 0) rfl t_199 rfl) (C146 (by omega) hv22) ?_
                by_cases h24 : v22 = 0
                · rw [if_pos h24] at H
                  refine n_ifT (n_q md_150 rfl) (decide_eq_true h24) ?_
                  refine g_go 1 md_150 (i1 := 89) rfl ?_
                  cases H
                  exact n_iret (n_q md_150 rfl) (Or.inl rfl)
                · rw [if_neg h24] at H
                  refine n_ifF (n_q md_150 rfl) (fun e1 => h24 (of_decide_eq_true e1)) ?_
                  refine g_go 2 md_150 (i1 := 89) rfl ?_
                  cases H
                  exact n_iret (n_q md_150 rfl) (Or.inl rfl)
              · rw [if_neg h21] at H
                refine n_ifF (n_q md_150 rfl) (fun e1 => h21 (of_decide_eq_true e1)) ?_
                refine g_go 1 md_150 (i1 := 76) rfl ?_
                cases H
                exact n_iret (n_q md_150 rfl) (Or.inl rfl)
            · rw [if_neg h18] at H
              refine n_ifF (n_q md_150 rfl) (fun e1 => h18 (of_decide_eq_true e1)) ?_
              refine g_go 1 md_150 (i1 := 65) rfl ?_
              cases H
              exact n_iret (n_q md_150 rfl) (Or.inl rfl)
          · rw [if_neg h15] at H
            refine n_ifF (n_q md_150 rfl) (fun e1 => h15 (of_decide_eq_true e1)) ?_
            refine g_go 1 md_150 (i1 := 54) rfl ?_
            cases H
            exact n_iret (n_q md_150 rfl) (Or.inl rfl)
        · rw [if_neg h12] at H
          refine n_ifF (n_q md_150 rfl) (fun e1 => h12 (of_decide_eq_true e1)) ?_
          refine g_go 1 md_150 (i1 := 43) rfl ?_
          cases H
          exact n_iret (n_q md_150 rfl) (Or.inl rfl)
      · rw [if_neg h9] at H
        refine n_ifF (n_q md_150 rfl) (fun e1 => h9 (of_decide_eq_true e1)) ?_
        refine g_go 1 md_150 (i1 := 32) rfl ?_
        cases H
        exact n_iret (n_q md_150 rfl) (Or.inl rfl)
    · rw [if_neg h6] at H
      refine n_ifF (n_q md_150 rfl) (fun e1 => h6 (of_decide_eq_true e1)) ?_
      refine g_go 1 md_150 (i1 := 21) rfl ?_
      cases H
      exact n_iret (n_q md_150 rfl) (Or.inl rfl)
  · rw [if_neg h3] at H
    refine n_ifF (n_q md_150 rfl) (fun e1 => h3 (of_decide_eq_true e1)) ?_
    refine g_go 1 md_150 (i1 := 10) rfl ?_
    cases H
    exact n_iret (n_q md_150 rfl) (Or.inl rfl)

end K5
