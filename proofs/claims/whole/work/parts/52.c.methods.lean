/-! METHODS, written by wip/whole/gen_51.py (2). -/
section K2
variable {X : m_X}
theorem md_73 : m_md 73 = m_X5_isSame := rfl
noncomputable def f73_13 (s : g_S) (p1 : Nat) (p2 : Int32) (p3 : Int32) (x4 : Int32) : Option ((Int32) ⊕ (Int32)) := (if x4 < p3 then (if m_in x4 (m_text.getD p1 []).length = true then if g_lay (s 11 2).toNatClampNeg = (1, ((g_lay (s 11 2).toNatClampNeg).2.1, (g_lay (s 11 2).toNatClampNeg).2.2)) ∧ m_in (((s 11 6) + x4) - p2) (g_lay (s 11 2).toNatClampNeg).2.1 = true then if (nI ((m_text.getD p1 []).getD x4.toNatClampNeg 0)) = (s ((s 11 2).toNatClampNeg) (((s 11 6) + x4) - p2).toNatClampNeg) then (some (.inl (x4 + 1))) else (some (.inr (0))) else none else none) else (some (.inr (1))))
theorem P73_13 {d ex : Nat} {rr : m_R} {s : g_S} {p1 : Nat} {p2 : Int32} {p3 : Int32} {x4 : Int32} (ph1 : p1 < m_text.length)  {z : ((Int32) ⊕ (Int32))} (H : f73_13 s p1 p2 p3 x4 = some z) (hd : 12 ≤ d) (K0 : ∀ S : Int32, z = .inl S → n_R X (d + 1) 73 13 [some (.ref 11), some (.ref (m_T0 + p1)), some (.int p2), some (.int p3), some (.int S)] [] (g_M s ex) rr) (Kr : ∀ q, z = .inr (q) → g_rPI s q ex = rr) : n_R X (d + 1) 73 13 [some (.ref 11), some (.ref (m_T0 + p1)), some (.int p2), some (.int p3), some (.int x4)] [] (g_M s ex) rr := by
  unfold f73_13 at H
  refine g_go 2 md_73 (i1 := 15) rfl ?_
  by_cases h1 : x4 < p3
  · rw [if_pos h1] at H
    refine n_cmpF (n_q md_73 rfl) (fun e1 => absurd (of_decide_eq_true e1) (Int32.not_le.mpr h1)) ?_
    refine g_go 2 md_73 (i1 := 18) rfl ?_
    obtain ⟨h2, H⟩ := g_gd H
    refine g_char (n_q md_73 rfl) (by omega) ph1 (Nat.le_of_ble_eq_true rfl) h2 ?_
    refine g_go 1 md_73 (i1 := 20) rfl ?_
    refine g_getd (n_q md_73 rfl) t_11 rfl ?_
    refine g_go 1 md_73 (i1 := 22) rfl ?_
    refine g_getf (n_q md_73 rfl) t_11 rfl ?_
    refine g_go 4 md_73 (i1 := 27) rfl ?_
    obtain ⟨h3, H⟩ := g_gd H
    refine g_iald (n_q md_73 rfl) h3.1 h3.2 ?_
    by_cases h4 : (nI ((m_text.getD p1 []).getD x4.toNatClampNeg 0)) = (s ((s 11 2).toNatClampNeg) (((s 11 6) + x4) - p2).toNatClampNeg)
    · rw [if_pos h4] at H
      refine n_cmpT (n_q md_73 rfl) (decide_eq_true h4) ?_
      refine g_go 2 md_73 (i1 := 13) (ls1 := [some (.ref 11), some (.ref (m_T0 + p1)), some (.int p2), some (.int p3), some (.int (x4 + 1))]) rfl ?_
      cases H
      exact K0 (x4 + 1) rfl
    · rw [if_neg h4] at H
      refine n_cmpF (n_q md_73 rfl) (fun e1 => h4 (of_decide_eq_true e1)) ?_
      refine g_go 1 md_73 (i1 := 30) rfl ?_
      cases H
      rw [← Kr _ rfl]
      exact n_iret (n_q md_73 rfl) (Or.inr rfl)
  · rw [if_neg h1] at H
    refine n_cmpT (n_q md_73 rfl) (decide_eq_true (Int32.not_lt.mp h1)) ?_
    refine g_go 1 md_73 (i1 := 34) rfl ?_
    cases H
    rw [← Kr _ rfl]
    exact n_iret (n_q md_73 rfl) (Or.inr rfl)
noncomputable def f73_13L (s : g_S) (p1 : Nat) (p2 : Int32) (p3 : Int32) (x4 : Int32) : Option (Int32) := g_run (fun S : Int32 => f73_13 s p1 p2 p3 S) x4
theorem f73_13L_eq (s : g_S) (p1 : Nat) (p2 : Int32) (p3 : Int32) (x4 : Int32) : f73_13L s p1 p2 p3 x4 = g_st (f73_13 s p1 p2 p3 x4) (fun S => f73_13L s p1 p2 p3 S) := by
  unfold f73_13L
  exact g_run_eq _ _
theorem P73_13L {d ex : Nat} {s : g_S} {p1 : Nat} {p2 : Int32} {p3 : Int32} {x4 : Int32} (ph1 : p1 < m_text.length)  {z : (Int32)} (H : f73_13L s p1 p2 p3 x4 = some z) (hd : 12 ≤ d)  : n_R X (d + 1) 73 13 [some (.ref 11), some (.ref (m_T0 + p1)), some (.int p2), some (.int p3), some (.int x4)] [] (g_M s ex) (g_rPI s z ex) := by
  unfold f73_13L at H
  refine g_rs (Q := fun S => n_R X (d + 1) 73 13 [some (.ref 11), some (.ref (m_T0 + p1)), some (.int p2), some (.int p3), some (.int S)] [] (g_M s ex) (g_rPI s z ex)) H ?_
  intro S w hb K0 KK
  refine P73_13 ph1 hb hd ?_ ?_
  · exact fun S1 e1 => K0 S1 e1
  · exact fun q e1 => by rw [KK q e1]
noncomputable def f73 (s : g_S) (p1 : Nat) (p2 : Int32) (p3 : Int32) : Option (Int32) := (if (p3 - p2) = ((s 11 7) - (s 11 6)) then (f73_13L s p1 p2 p3 p2) else (some 0))
theorem C73 {d ex : Nat} {s : g_S} {p1 : Nat} {p2 : Int32} {p3 : Int32} (ph1 : p1 < m_text.length) {z : Int32} (hd : 12 < d) (H : f73 s p1 p2 p3 = some z) : n_C X d 73 [.ref 11, .ref (m_T0 + p1), .int p2, .int p3] (g_M s ex) (g_rPI s z ex) := by
  obtain ⟨d, rfl⟩ : ∃ d1, d = d1 + 1 := ⟨d - 1, by omega⟩
  replace hd := Nat.le_of_lt_succ hd
  refine ⟨Nat.le_of_ble_eq_true rfl, ?_⟩
  rw [md_73]
  show n_R X (d + 1) 73 0 [some (.ref 11), some (.ref (m_T0 + p1)), some (.int p2), some (.int p3), none] [] (g_M s ex) _
  unfold f73 at H
  refine g_go 4 md_73 (i1 := 4) rfl ?_
  refine g_getf (n_q md_73 rfl) t_11 rfl ?_
  refine g_go 1 md_73 (i1 := 6) rfl ?_
  refine g_getf (n_q md_73 rfl) t_11 rfl ?_
  refine g_go 1 md_73 (i1 := 8) rfl ?_
  by_cases h1 : (p3 - p2) = ((s 11 7) - (s 11 6))
  · rw [if_pos h1] at H
    refine n_cmpT (n_q md_73 rfl) (decide_eq_true h1) ?_
    refine g_go 2 md_73 (i1 := 13) (ls1 := [some (.ref 11), some (.ref (m_T0 + p1)), some (.int p2), some (.int p3), some (.int p2)]) rfl ?_
    exact P73_13L ph1 H hd
  · rw [if_neg h1] at H
    refine n_cmpF (n_q md_73 rfl) (fun e1 => h1 (of_decide_eq_true e1)) ?_
    refine g_go 1 md_73 (i1 := 10) rfl ?_
    cases H
    exact n_iret (n_q md_73 rfl) (Or.inr rfl)

theorem md_72 : m_md 72 = m_X5_wordOf := rfl
noncomputable def f72_25 (s : g_S) (p1 : Nat) (x2 : Int32) (x3 : Int32) (x4 : Int32) : Option ((Int32 × Int32 × Int32) ⊕ (Int32)) := ((f73 s p1 x3 x4).bind fun v1 => if v1 = 0 then (some (.inl (x2 + 1, (x4 + 1, x4 + 1)))) else (some (.inr (x2))))
theorem P72_25 {d ex : Nat} {rr : m_R} {s : g_S} {p1 : Nat} {x2 : Int32} {x3 : Int32} {x4 : Int32} (ph1 : p1 < m_text.length)  {z : ((Int32 × Int32 × Int32) ⊕ (Int32))} (H : f72_25 s p1 x2 x3 x4 = some z) (hd : 13 ≤ d) (K0 : ∀ S : Int32 × Int32 × Int32, z = .inl S → n_R X (d + 1) 72 12 [some (.ref 11), some (.ref (m_T0 + p1)), some (.int S.1), some (.int S.2.1), some (.int S.2.2)] [] (g_M s ex) rr) (Kr : ∀ q, z = .inr (q) → g_rPI s q ex = rr) : n_R X (d + 1) 72 25 [some (.ref 11), some (.ref (m_T0 + p1)), some (.int x2), some (.int x3), some (.int x4)] [] (g_M s ex) rr := by
  unfold f72_25 at H
  refine g_go 4 md_72 (i1 := 29) rfl ?_
  obtain ⟨v1, hv1, H⟩ := g_bind H
  refine n_callv (n_q md_72 rfl) (As := [.ref 11, .ref (m_T0 + p1), .int x3, .int x4]) (rest := []) rfl rfl (Nat.le_of_ble_eq_true rfl) rfl (g_recv (b := 0) rfl t_11 rfl) (C73 ph1 (by omega) hv1) ?_
  by_cases h2 : v1 = 0
  · rw [if_pos h2] at H
    refine n_ifT (n_q md_72 rfl) (decide_eq_true h2) ?_
    refine g_go 7 md_72 (i1 := 12) (ls1 := [some (.ref 11), some (.ref (m_T0 + p1)), some (.int (x2 + 1)), some (.int (x4 + 1)), some (.int (x4 + 1))]) rfl ?_
    cases H
    exact K0 (x2 + 1, (x4 + 1, x4 + 1)) rfl
  · rw [if_neg h2] at H
    refine n_ifF (n_q md_72 rfl) (fun e1 => h2 (of_decide_eq_true e1)) ?_
    refine g_go 1 md_72 (i1 := 32) rfl ?_
    cases H
    rw [← Kr _ rfl]
    exact n_iret (n_q md_72 rfl) (Or.inl rfl)
noncomputable def f72_12 (s : g_S) (p1 : Nat) (x2 : Int32) (x3 : Int32) (x4 : Int32) : Option ((Int32 × Int32 × Int32) ⊕ (Int32)) := (if (nI (m_text.getD p1 []).length) < x4 then (some (.inr ((-1)))) else (if x4 = (nI (m_text.getD p1 []).length) then (f72_25 s p1 x2 x3 x4) else (if m_in x4 (m_text.getD p1 []).length = true then if (nI ((m_text.getD p1 []).getD x4.toNatClampNeg 0)) = 32 then (f72_25 s p1 x2 x3 x4) else (some (.inl (x2, (x3, x4 + 1)))) else none)))
theorem P72_12 {d ex : Nat} {rr : m_R} {s : g_S} {p1 : Nat} {x2 : Int32} {x3 : Int32} {x4 : Int32} (ph1 : p1 < m_text.length)  {z : ((Int32 × Int32 × Int32) ⊕ (Int32))} (H : f72_12 s p1 x2 x3 x4 = some z) (hd : 13 ≤ d) (K0 : ∀ S : Int32 × Int32 × Int32, z = .inl S → n_R X (d + 1) 72 12 [some (.ref 11), some (.ref (m_T0 + p1)), some (.int S.1), some (.int S.2.1), some (.int S.2.2)] [] (g_M s ex) rr) (Kr : ∀ q, z = .inr (q) → g_rPI s q ex = rr) : n_R X (d + 1) 72 12 [some (.ref 11), some (.ref (m_T0 + p1)), some (.int x2), some (.int x3), some (.int x4)] [] (g_M s ex) rr := by
  unfold f72_12 at H
  refine g_go 2 md_72 (i1 := 14) rfl ?_
  refine g_slen (n_q md_72 rfl) (by omega) ph1 (Nat.le_of_ble_eq_true rfl) ?_
  by_cases h1 : (nI (m_text.getD p1 []).length) < x4
  · rw [if_pos h1] at H
    refine n_cmpT (n_q md_72 rfl) (decide_eq_true h1) ?_
    refine g_go 1 md_72 (i1 := 41) rfl ?_
    cases H
    rw [← Kr _ rfl]
    exact n_iret (n_q md_72 rfl) (Or.inl rfl)
  · rw [if_neg h1] at H
    refine n_cmpF (n_q md_72 rfl) (fun e1 => h1 (of_decide_eq_true e1)) ?_
    refine g_go 2 md_72 (i1 := 18) rfl ?_
    refine g_slen (n_q md_72 rfl) (by omega) ph1 (Nat.le_of_ble_eq_true rfl) ?_
    by_cases h2 : x4 = (nI (m_text.getD p1 []).length)
    · rw [if_pos h2] at H
      refine n_cmpT (n_q md_72 rfl) (decide_eq_true h2) ?_
      exact P72_25 ph1 H hd K0 Kr
    · rw [if_neg h2] at H
      refine n_cmpF (n_q md_72 rfl) (fun e1 => h2 (of_decide_eq_true e1)) ?_
      refine g_go 2 md_72 (i1 := 22) rfl ?_
      obtain ⟨h3, H⟩ := g_gd H
      refine g_char (n_q md_72 rfl) (by omega) ph1 (Nat.le_of_ble_eq_true rfl) h3 ?_
      refine g_go 1 md_72 (i1 := 24) rfl ?_
      by_cases h4 : (nI ((m_text.getD p1 []).getD x4.toNatClampNeg 0)) = 32
      · rw [if_pos h4] at H
        refine n_cmpF (n_q md_72 rfl) (fun e1 => of_decide_eq_true e1 h4) ?_
        exact P72_25 ph1 H hd K0 Kr
      · rw [if_neg h4] at H
        refine n_cmpT (n_q md_72 rfl) (decide_eq_true h4) ?_
        refine g_go 2 md_72 (i1 := 12) (ls1 := [some (.ref 11), some (.ref (m_T0 + p1)), some (.int x2), some (.int x3), some (.int (x4 + 1))]) rfl ?_
        cases H
        exact K0 (x2, (x3, x4 + 1)) rfl
noncomputable def f72_12L (s : g_S) (p1 : Nat) (x2 : Int32) (x3 : Int32) (x4 : Int32) : Option (Int32) := g_run (fun S : Int32 × Int32 × Int32 => f72_12 s p1 S.1 S.2.1 S.2.2) (x2, (x3, x4))
theorem f72_12L_eq (s : g_S) (p1 : Nat) (x2 : Int32) (x3 : Int32) (x4 : Int32) : f72_12L s p1 x2 x3 x4 = g_st (f72_12 s p1 x2 x3 x4) (fun S => f72_12L s p1 S.1 S.2.1 S.2.2) := by
  unfold f72_12L
  exact g_run_eq _ _
theorem P72_12L {d ex : Nat} {s : g_S} {p1 : Nat} {x2 : Int32} {x3 : Int32} {x4 : Int32} (ph1 : p1 < m_text.length)  {z : (Int32)} (H : f72_12L s p1 x2 x3 x4 = some z) (hd : 13 ≤ d)  : n_R X (d + 1) 72 12 [some (.ref 11), some (.ref (m_T0 + p1)), some (.int x2), some (.int x3), some (.int x4)] [] (g_M s ex) (g_rPI s z ex) := by
  unfold f72_12L at H
  refine g_rs (Q := fun S => n_R X (d + 1) 72 12 [some (.ref 11), some (.ref (m_T0 + p1)), some (.int S.1), some (.int S.2.1), some (.int S.2.2)] [] (g_M s ex) (g_rPI s z ex)) H ?_
  intro S w hb K0 KK
  refine P72_12 ph1 hb hd ?_ ?_
  · exact fun S1 e1 => K0 S1 e1
  · exact fun q e1 => by rw [KK q e1]
noncomputable def f72 (s : g_S) (p1 : Nat) : Option (Int32) := (if (s 11 5) = 256 then (f72_12L s p1 0 0 0) else (some ((-1))))
theorem C72 {d ex : Nat} {s : g_S} {p1 : Nat} (ph1 : p1 < m_text.length) {z : Int32} (hd : 13 < d) (H : f72 s p1 = some z) : n_C X d 72 [.ref 11, .ref (m_T0 + p1)] (g_M s ex) (g_rPI s z ex) := by
  obtain ⟨d, rfl⟩ : ∃ d1, d = d1 + 1 := ⟨d - 1, by omega⟩
  replace hd := Nat.le_of_lt_succ hd
  refine ⟨Nat.le_of_ble_eq_true rfl, ?_⟩
  rw [md_72]
  show n_R X (d + 1) 72 0 [some (.ref 11), some (.ref (m_T0 + p1)), none, none, none] [] (g_M s ex) _
  unfold f72 at H
  refine g_go 1 md_72 (i1 := 1) rfl ?_
  refine g_getf (n_q md_72 rfl) t_11 rfl ?_
  refine g_go 1 md_72 (i1 := 3) rfl ?_
  by_cases h1 : (s 11 5) = 256
  · rw [if_pos h1] at H
    refine n_cmpT (n_q md_72 rfl) (decide_eq_true h1) ?_
    refine g_go 6 md_72 (i1 := 12) (ls1 := [some (.ref 11), some (.ref (m_T0 + p1)), some (.int 0), some (.int 0), some (.int 0)]) rfl ?_
    exact P72_12L ph1 H hd
  · rw [if_neg h1] at H
    refine n_cmpF (n_q md_72 rfl) (fun e1 => h1 (of_decide_eq_true e1)) ?_
    refine g_go 1 md_72 (i1 := 5) rfl ?_
    cases H
    exact n_iret (n_q md_72 rfl) (Or.inl rfl)

theorem md_46 : m_md 46 = m_X5_readMixing := rfl
noncomputable def f46 (s : g_S) : Option (Int32 × g_S) := ((f72 s 2).bind fun v1 => if v1 = ((-1)) then (g_bd (f67 s 1) fun v3 s4 => if m_isb v3 = true then some ((v3, s4)) else none) else (if g_lay (s 11 4).toNatClampNeg = o_4 (s 11 4).toNatClampNeg then (f31 s ((s 11 4).toNatClampNeg) 5 0).bind fun s5 => if g_lay (s5 11 4).toNatClampNeg = o_4 (s5 11 4).toNatClampNeg then g_let (g_w s5 ((s5 11 4).toNatClampNeg) 0 v1) fun s7 => (f68 s7).bind fun s9 => some ((1, s9)) else none else none))
theorem C46 {d ex : Nat} {s : g_S}  {z : Int32 × g_S} (hd : 14 < d) (H : f46 s = some z) : n_C X d 46 [.ref 11] (g_M s ex) (g_rSI z ex) := by
  obtain ⟨d, rfl⟩ : ∃ d1, d = d1 + 1 := ⟨d - 1, by omega⟩
  replace hd := Nat.le_of_lt_succ hd
  refine ⟨Nat.le_of_ble_eq_true rfl, ?_⟩
  rw [md_46]
  show n_R X (d + 1) 46 0 [some (.ref 11), none] [] (g_M s ex) _
  unfold f46 at H
  refine g_go 2 md_46 (i1 := 2) rfl ?_
  obtain ⟨v1, hv1, H⟩ := g_bind H
  refine n_callv (n_q md_46 rfl) (As := [.ref 11, .ref (m_T0 + 2)]) (rest := []) rfl rfl (Nat.le_of_ble_eq_true rfl) rfl (g_recv (b := 0) rfl t_11 rfl) (C72 (by decide : 2 < m_text.length) (by omega) hv1) ?_
  refine g_go 3 md_46 (i1 := 6) (ls1 := [some (.ref 11), some (.int v1)]) rfl ?_
  by_cases h2 : v1 = ((-1))
  · rw [if_pos h2] at H
    refine n_cmpF (n_q md_46 rfl) (fun e1 => of_decide_eq_true e1 h2) ?_
    refine g_go 2 md_46 (i1 := 9) rfl ?_
    obtain ⟨v3, s4, hv3, H⟩ := g_bdp H
    refine n_callv (n_q md_46 rfl) (As := [.ref 11, .int 1]) (rest := []) rfl rfl (Nat.le_of_ble_eq_true rfl) rfl (g_recv (b := 0) rfl t_11 rfl) (C67 (by omega) hv3) ?_
    obtain ⟨hb5, H⟩ := g_gd H
    cases H
    exact n_iret (n_q md_46 rfl) (Or.inr hb5)
  · rw [if_neg h2] at H
    refine n_cmpT (n_q md_46 rfl) (decide_eq_true h2) ?_
    refine g_go 1 md_46 (i1 := 12) rfl ?_
    refine g_getd (n_q md_46 rfl) t_11 rfl ?_
    refine g_go 2 md_46 (i1 := 15) rfl ?_
    obtain ⟨h3, H⟩ := g_gd H
    obtain ⟨s5, hs5, H⟩ := g_bind H
    refine n_call (n_q md_46 rfl) (As := [.ref ((s 11 4).toNatClampNeg), .int 5, .int 0]) (rest := []) rfl rfl (Nat.le_of_ble_eq_true rfl) rfl (g_recv (b := 0) rfl h3 rfl) (C31 h3 (by omega) hs5) ?_
    refine g_go 1 md_46 (i1 := 17) rfl ?_
    refine g_getd (n_q md_46 rfl) t_11 rfl ?_
    refine g_go 1 md_46 (i1 := 19) rfl ?_
    obtain ⟨h6, H⟩ := g_gd H
    obtain ⟨s7, es7, H⟩ := g_letp H
    refine g_putf (n_q md_46 rfl) h6 rfl rfl es7 ?_
    refine g_go 1 md_46 (i1 := 21) rfl ?_
    obtain ⟨s9, hs9, H⟩ := g_bind H
    refine n_call (n_q md_46 rfl) (As := [.ref 11]) (rest := []) rfl rfl (Nat.le_of_ble_eq_true rfl) rfl (g_recv (b := 0) rfl t_11 rfl) (C68 (by omega) hs9) ?_
    refine g_go 1 md_46 (i1 := 23) rfl ?_
    cases H
    exact n_iret (n_q md_46 rfl) (Or.inr rfl)

theorem md_74 : m_md 74 = m_X5_bitsOf := rfl
noncomputable def f74 (s : g_S) (p0 : Int32) (p1 : Int32) : Option (Int32) := (if p0 = p1 then (some (((1 : Int32) <<< (p1 &&& 31)) - 1)) else (some ((1 : Int32) <<< (p0 &&& 31))))
theorem C74 {d ex : Nat} {s : g_S} {p0 : Int32} {p1 : Int32}  {z : Int32} (hd : 12 < d) (H : f74 s p0 p1 = some z) : n_C X d 74 [.int p0, .int p1] (g_M s ex) (g_rPI s z ex) := by
  obtain ⟨d, rfl⟩ : ∃ d1, d = d1 + 1 := ⟨d - 1, by omega⟩
  replace hd := Nat.le_of_lt_succ hd
  refine ⟨Nat.le_of_ble_eq_true rfl, ?_⟩
  rw [md_74]
  show n_R X (d + 1) 74 0 [some (.int p0), some (.int p1)] [] (g_M s ex) _
  unfold f74 at H
  refine g_go 2 md_74 (i1 := 2) rfl ?_
  by_cases h1 : p0 = p1
  · rw [if_pos h1] at H
    refine n_cmpF (n_q md_74 rfl) (fun e1 => of_decide_eq_true e1 h1) ?_
    refine g_go 6 md_74 (i1 := 12) rfl ?_
    cases H
    exact n_iret (n_q md_74 rfl) (Or.inl rfl)
  · rw [if_neg h1] at H
    refine n_cmpT (n_q md_74 rfl) (decide_eq_true h1) ?_
    refine g_go 3 md_74 (i1 := 12) rfl ?_
    cases H
    exact n_iret (n_q md_74 rfl) (Or.inl rfl)

theorem md_49 : m_md 49 = m_X5_readHarm := rfl
noncomputable def f49 (s : g_S) : Option (Int32 × g_S) := ((f72 s 4).bind fun v1 => if v1 = ((-1)) then (g_bd (f67 s 1) fun v3 s4 => if m_isb v3 = true then some ((v3, s4)) else none) else ((f74 s v1 6).bind fun v3 => if g_lay (s 11 4).toNatClampNeg = o_4 (s 11 4).toNatClampNeg then (f32 s ((s 11 4).toNatClampNeg) v3).bind fun s6 => (f68 s6).bind fun s8 => some ((1, s8)) else none))
theorem C49 {d ex : Nat} {s : g_S}  {z : Int32 × g_S} (hd : 14 < d) (H : f49 s = some z) : n_C X d 49 [.ref 11] (g_M s ex) (g_rSI z ex) := by
  obtain ⟨d, rfl⟩ : ∃ d1, d = d1 + 1 := ⟨d - 1, by omega⟩
  replace hd := Nat.le_of_lt_succ hd
  refine ⟨Nat.le_of_ble_eq_true rfl, ?_⟩
  rw [md_49]
  show n_R X (d + 1) 49 0 [some (.ref 11), none] [] (g_M s ex) _
  unfold f49 at H
  refine g_go 2 md_49 (i1 := 2) rfl ?_
  obtain ⟨v1, hv1, H⟩ := g_bind H
  refine n_callv (n_q md_49 rfl) (As := [.ref 11, .ref (m_T0 + 4)]) (rest := []) rfl rfl (Nat.le_of_ble_eq_true rfl) rfl (g_recv (b := 0) rfl t_11 rfl) (C72 (by decide : 4 < m_text.length) (by omega) hv1) ?_
  refine g_go 3 md_49 (i1 := 6) (ls1 := [some (.ref 11), some (.int v1)]) rfl ?_
  by_cases h2 : v1 = ((-1))
  · rw [if_pos h2] at H
    refine n_cmpF (n_q md_49 rfl) (fun e1 => of_decide_eq_true e1 h2) ?_
    refine g_go 2 md_49 (i1 := 9) rfl ?_
    obtain ⟨v3, s4, hv3, H⟩ := g_bdp H
    refine n_callv (n_q md_49 rfl) (As := [.ref 11, .int 1]) (rest := []) rfl rfl (Nat.le_of_ble_eq_true rfl) rfl (g_recv (b := 0) rfl t_11 rfl) (C67 (by omega) hv3) ?_
    obtain ⟨hb5, H⟩ := g_gd H
    cases H
    exact n_iret (n_q md_49 rfl) (Or.inr hb5)
  · rw [if_neg h2] at H
    refine n_cmpT (n_q md_49 rfl) (decide_eq_true h2) ?_
    refine g_go 1 md_49 (i1 := 12) rfl ?_
    refine g_getd (n_q md_49 rfl) t_11 rfl ?_
    refine g_go 2 md_49 (i1 := 15) rfl ?_
    obtain ⟨v3, hv3, H⟩ := g_bind H
    refine n_callv (n_q md_49 rfl) (As := [.int v1, .int 6]) (rest := [.ref ((s 11 4).toNatClampNeg)]) rfl rfl (Nat.le_of_ble_eq_true rfl) rfl rfl (C74 (by omega) hv3) ?_
    obtain ⟨h4, H⟩ := g_gd H
    obtain ⟨s6, hs6, H⟩ := g_bind H
    refine n_call (n_q md_49 rfl) (As := [.ref ((s 11 4).toNatClampNeg), .int v3]) (rest := []) rfl rfl (Nat.le_of_ble_eq_true rfl) rfl (g_recv (b := 0) rfl h4 rfl) (C32 h4 (by omega) hs6) ?_
    refine g_go 1 md_49 (i1 := 18) rfl ?_
    obtain ⟨s8, hs8, H⟩ := g_bind H
    refine n_call (n_q md_49 rfl) (As := [.ref 11]) (rest := []) rfl rfl (Nat.le_of_ble_eq_true rfl) rfl (g_recv (b := 0) rfl t_11 rfl) (C68 (by omega) hs8) ?_
    refine g_go 1 md_49 (i1 := 20) rfl ?_
    cases H
    exact n_iret (n_q md_49 rfl) (Or.inr rfl)

theorem md_48 : m_md 48 = m_X5_readHarms := rfl
noncomputable def f48_5 (s : g_S) (x1 : Int32) (x2 : Int32) : Option ((Int32 × Int32 × g_S) ⊕ (Int32 × g_S)) := (if x1 = 0 then (if m_isb x1 = true then some (.inr ((x1, s))) else none) else (if x2 < (s 11 3) then (if (s 11 5) = 44 then ((f68 s).bind fun s5 => g_bd (f49 s5) fun v6 s7 => some (.inl (v6, (x2 + 1, s7)))) else (if m_isb x1 = true then some (.inr ((x1, s))) else none)) else (if m_isb x1 = true then some (.inr ((x1, s))) else none)))
theorem P48_5 {d ex : Nat} {rr : m_R} {s : g_S} {x1 : Int32} {x2 : Int32}   {z : ((Int32 × Int32 × g_S) ⊕ (Int32 × g_S))} (H : f48_5 s x1 x2 = some z) (hd : 15 ≤ d) (K0 : ∀ S : Int32 × Int32 × g_S, z = .inl S → n_R X (d + 1) 48 5 [some (.ref 11), some (.int S.1), some (.int S.2.1)] [] (g_M S.2.2 ex) rr) (Kr : ∀ q, z = .inr (q) → g_rSI q ex = rr) : n_R X (d + 1) 48 5 [some (.ref 11), some (.int x1), some (.int x2)] [] (g_M s ex) rr := by
  unfold f48_5 at H
  refine g_go 1 md_48 (i1 := 6) rfl ?_
  by_cases h1 : x1 = 0
  · rw [if_pos h1] at H
    refine n_ifT (n_q md_48 rfl) (decide_eq_true h1) ?_
    refine g_go 1 md_48 (i1 := 23) rfl ?_
    obtain ⟨hb2, H⟩ := g_gd H
    cases H
    rw [← Kr _ rfl]
    exact n_iret (n_q md_48 rfl) (Or.inr hb2)
  · rw [if_neg h1] at H
    refine n_ifF (n_q md_48 rfl) (fun e1 => h1 (of_decide_eq_true e1)) ?_
    refine g_go 2 md_48 (i1 := 9) rfl ?_
    refine g_getf (n_q md_48 rfl) t_11 rfl ?_
    by_cases h2 : x2 < (s 11 3)
    · rw [if_pos h2] at H
      refine n_cmpF (n_q md_48 rfl) (fun e1 => absurd (of_decide_eq_true e1) (Int32.not_le.mpr h2)) ?_
      refine g_go 1 md_48 (i1 := 12) rfl ?_
      refine g_getf (n_q md_48 rfl) t_11 rfl ?_
      refine g_go 1 md_48 (i1 := 14) rfl ?_
      by_cases h3 : (s 11 5) = 44
      · rw [if_pos h3] at H
        refine n_cmpF (n_q md_48 rfl) (fun e1 => of_decide_eq_true e1 h3) ?_
        refine g_go 1 md_48 (i1 := 16) rfl ?_
        obtain ⟨s5, hs5, H⟩ := g_bind H
        refine n_call (n_q md_48 rfl) (As := [.ref 11]) (rest := []) rfl rfl (Nat.le_of_ble_eq_true rfl) rfl (g_recv (b := 0) rfl t_11 rfl) (C68 (by omega) hs5) ?_
        refine g_go 1 md_48 (i1 := 18) rfl ?_
        obtain ⟨v6, s7, hv6, H⟩ := g_bdp H
        refine n_callv (n_q md_48 rfl) (As := [.ref 11]) (rest := []) rfl rfl (Nat.le_of_ble_eq_true rfl) rfl (g_recv (b := 0) rfl t_11 rfl) (C49 (by omega) hv6) ?_
        refine g_go 3 md_48 (i1 := 5) (ls1 := [some (.ref 11), some (.int v6), some (.int (x2 + 1))]) rfl ?_
        cases H
        exact K0 (v6, (x2 + 1, s7)) rfl
      · rw [if_neg h3] at H
        refine n_cmpT (n_q md_48 rfl) (decide_eq_true h3) ?_
        refine g_go 1 md_48 (i1 := 23) rfl ?_
        obtain ⟨hb4, H⟩ := g_gd H
        cases H
        rw [← Kr _ rfl]
        exact n_iret (n_q md_48 rfl) (Or.inr hb4)
    · rw [if_neg h2] at H
      refine n_cmpT (n_q md_48 rfl) (decide_eq_true (Int32.not_lt.mp h2)) ?_
      refine g_go 1 md_48 (i1 := 23) rfl ?_
      obtain ⟨hb3, H⟩ := g_gd H
      cases H
      rw [← Kr _ rfl]
      exact n_iret (n_q md_48 rfl) (Or.inr hb3)
noncomputable def f48_5L (s : g_S) (x1 : Int32) (x2 : Int32) : Option (Int32 × g_S) := g_run (fun S : Int32 × Int32 × g_S => f48_5 S.2.2 S.1 S.2.1) (x1, (x2, s))
theorem f48_5L_eq (s : g_S) (x1 : Int32) (x2 : Int32) : f48_5L s x1 x2 = g_st (f48_5 s x1 x2) (fun S => f48_5L S.2.2 S.1 S.2.1) := by
  unfold f48_5L
  exact g_run_eq _ _
theorem P48_5L {d ex : Nat} {s : g_S} {x1 : Int32} {x2 : Int32}   {z : (Int32 × g_S)} (H : f48_5L s x1 x2 = some z) (hd : 15 ≤ d)  : n_R X (d + 1) 48 5 [some (.ref 11), some (.int x1), some (.int x2)] [] (g_M s ex) (g_rSI z ex) := by
  unfold f48_5L at H
  refine g_rs (Q := fun S => n_R X (d + 1) 48 5 [some (.ref 11), some (.int S.1), some (.int S.2.1)] [] (g_M S.2.2 ex) (g_rSI z ex)) H ?_
  intro S w hb K0 KK
  refine P48_5 hb hd ?_ ?_
  · exact fun S1 e1 => K0 S1 e1
  · exact fun q e1 => by rw [KK q e1]
noncomputable def f48 (s : g_S) : Option (Int32 × g_S) := (g_bd (f49 s) fun v1 s2 => f48_5L s2 v1 0)
theorem C48 {d ex : Nat} {s : g_S}  {z : Int32 × g_S} (hd : 15 < d) (H : f48 s = some z) : n_C X d 48 [.ref 11] (g_M s ex) (g_rSI z ex) := by
  obtain ⟨d, rfl⟩ : ∃ d1, d = d1 + 1 := ⟨d - 1, by omega⟩
  replace hd := Nat.le_of_lt_succ hd
  refine ⟨Nat.le_of_ble_eq_true rfl, ?_⟩
  rw [md_48]
  show n_R X (d + 1) 48 0 [some (.ref 11), none, none] [] (g_M s ex) _
  unfold f48 at H
  refine g_go 1 md_48 (i1 := 1) rfl ?_
  obtain ⟨v1, s2, hv1, H⟩ := g_bdp H
  refine n_callv (n_q md_48 rfl) (As := [.ref 11]) (rest := []) rfl rfl (Nat.le_of_ble_eq_true rfl) rfl (g_recv (b := 0) rfl t_11 rfl) (C49 (by omega) hv1) ?_
  refine g_go 3 md_48 (i1 := 5) (ls1 := [some (.ref 11), some (.int v1), some (.int 0)]) rfl ?_
  exact P48_5L H hd

theorem md_66 : m_md 66 = m_X5_isNumber := rfl
noncomputable def f66_16 (s : g_S) (p1 : Int32) (p2 : Int32) : Option (Int32 × g_S) := (g_bd (f67 s 2) fun v1 s2 => if v1 = 0 then (some ((0, s2))) else (some ((1, s2))))
theorem P66_16 {d ex : Nat} {s : g_S} {p1 : Int32} {p2 : Int32}   {z : (Int32 × g_S)} (H : f66_16 s p1 p2 = some z) (hd : 13 ≤ d)  : n_R X (d + 1) 66 16 [some (.ref 11), some (.int p1), some (.int p2)] [] (g_M s ex) (g_rSI z ex) := by
  unfold f66_16 at H
  refine g_go 2 md_66 (i1 := 18) rfl ?_
  obtain ⟨v1, s2, hv1, H⟩ := g_bdp H
  refine n_callv (n_q md_66 rfl) (As := [.ref 11, .int 2]) (rest := []) rfl rfl (Nat.le_of_ble_eq_true rfl) rfl (g_recv (b := 0) rfl t_11 rfl) (C67 (by omega) hv1) ?_
  by_cases h3 : v1 = 0
  · rw [if_pos h3] at H
    refine n_ifT (n_q md_66 rfl) (decide_eq_true h3) ?_
    refine g_go 1 md_66 (i1 := 23) rfl ?_
    cases H
    exact n_iret (n_q md_66 rfl) (Or.inr rfl)
  · rw [if_neg h3] at H
    refine n_ifF (n_q md_66 rfl) (fun e1 => h3 (of_decide_eq_true e1)) ?_
    refine g_go 2 md_66 (i1 := 23) rfl ?_
    cases H
    exact n_iret (n_q md_66 rfl) (Or.inr rfl)
noncomputable def f66 (s : g_S) (p1 : Int32) (p2 : Int32) : Option (Int32 × g_S) := (if (s 11 5) = 257 then (if (s 11 8) < p1 then (f66_16 s p1 p2) else (if p2 < (s 11 8) then (f66_16 s p1 p2) else (some ((1, s))))) else (g_bd (f67 s 1) fun v2 s3 => if m_isb v2 = true then some ((v2, s3)) else none))
theorem C66 {d ex : Nat} {s : g_S} {p1 : Int32} {p2 : Int32}  {z : Int32 × g_S} (hd : 13 < d) (H : f66 s p1 p2 = some z) : n_C X d 66 [.ref 11, .int p1, .int p2] (g_M s ex) (g_rSI z ex) := by
  obtain ⟨d, rfl⟩ : ∃ d1, d = d1 + 1 := ⟨d - 1, by omega⟩
  replace hd := Nat.le_of_lt_succ hd
  refine ⟨Nat.le_of_ble_eq_true rfl, ?_⟩
  rw [md_66]
  show n_R X (d + 1) 66 0 [some (.ref 11), some (.int p1), some (.int p2)] [] (g_M s ex) _
  unfold f66 at H
  refine g_go 1 md_66 (i1 := 1) rfl ?_
  refine g_getf (n_q md_66 rfl) t_11 rfl ?_
  refine g_go 1 md_66 (i1 := 3) rfl ?_
  by_cases h1 : (s 11 5) = 257
  · rw [if_pos h1] at H
    refine n_cmpT (n_q md_66 rfl) (decide_eq_true h1) ?_
    refine g_go 1 md_66 (i1 := 9) rfl ?_
    refine g_getf (n_q md_66 rfl) t_11 rfl ?_
    refine g_go 1 md_66 (i1 := 11) rfl ?_
    by_cases h2 : (s 11 8) < p1
    · rw [if_pos h2] at H
      refine n_cmpT (n_q md_66 rfl) (decide_eq_true h2) ?_
      exact P66_16 H hd
    · rw [if_neg h2] at H
      refine n_cmpF (n_q md_66 rfl) (fun e1 => h2 (of_decide_eq_true e1)) ?_
      refine g_go 1 md_66 (i1 := 13) rfl ?_
      refine g_getf (n_q md_66 rfl) t_11 rfl ?_
      refine g_go 1 md_66 (i1 := 15) rfl ?_
      by_cases h3 : p2 < (s 11 8)
      · rw [if_pos h3] at H
        refine n_cmpF (n_q md_66 rfl) (fun e1 => absurd (of_decide_eq_true e1) (Int32.not_le.mpr h3)) ?_
        exact P66_16 H hd
      · rw [if_neg h3] at H
        refine n_cmpT (n_q md_66 rfl) (decide_eq_true (Int32.not_lt.mp h3)) ?_
        refine g_go 2 md_66 (i1 := 23) rfl ?_
        cases H
        exact n_iret (n_q md_66 rfl) (Or.inr rfl)
  · rw [if_neg h1] at H
    refine n_cmpF (n_q md_66 rfl) (fun e1 => h1 (of_decide_eq_true e1)) ?_
    refine g_go 2 md_66 (i1 := 6) rfl ?_
    obtain ⟨v2, s3, hv2, H⟩ := g_bdp H
    refine n_callv (n_q md_66 rfl) (As := [.ref 11, .int 1]) (rest := []) rfl rfl (Nat.le_of_ble_eq_true rfl) rfl (g_recv (b := 0) rfl t_11 rfl) (C67 (by omega) hv2) ?_
    obtain ⟨hb4, H⟩ := g_gd H
    cases H
    exact n_iret (n_q md_66 rfl) (Or.inr hb4)

theorem md_51 : m_md 51 = m_X5_readTerm := rfl
noncomputable def f51 (s : g_S) : Option (Int32 × g_S) := (g_bd (f66 s 1 3) fun v1 s2 => if v1 = 0 then (some ((0, s2))) else (if g_lay (s2 11 4).toNatClampNeg = o_4 (s2 11 4).toNatClampNeg then (f32 s2 ((s2 11 4).toNatClampNeg) ((1 : Int32) <<< ((s2 11 8) &&& 31))).bind fun s6 => (f68 s6).bind fun s8 => some ((1, s8)) else none))
theorem C51 {d ex : Nat} {s : g_S}  {z : Int32 × g_S} (hd : 14 < d) (H : f51 s = some z) : n_C X d 51 [.ref 11] (g_M s ex) (g_rSI z ex) := by
  obtain ⟨d, rfl⟩ : ∃ d1, d = d1 + 1 := ⟨d - 1, by omega⟩
  replace hd := Nat.le_of_lt_succ hd
  refine ⟨Nat.le_of_ble_eq_true rfl, ?_⟩
  rw [md_51]
  show n_R X (d + 1) 51 0 [some (.ref 11)] [] (g_M s ex) _
  unfold f51 at H
  refine g_go 3 md_51 (i1 := 3) rfl ?_
  obtain ⟨v1, s2, hv1, H⟩ := g_bdp H
  refine n_callv (n_q md_51 rfl) (As := [.ref 11, .int 1, .int 3]) (rest := []) rfl rfl (Nat.le_of_ble_eq_true rfl) rfl (g_recv (b := 0) rfl t_11 rfl) (C66 (by omega) hv1) ?_
  by_cases h3 : v1 = 0
  · rw [if_pos h3] at H
    refine n_ifF (n_q md_51 rfl) (fun e1 => of_decide_eq_true e1 h3) ?_
    refine g_go 1 md_51 (i1 := 6) rfl ?_
    cases H
    exact n_iret (n_q md_51 rfl) (Or.inr rfl)
  · rw [if_neg h3] at H
    refine n_ifT (n_q md_51 rfl) (decide_eq_true h3) ?_
    refine g_go 1 md_51 (i1 := 8) rfl ?_
    refine g_getd (n_q md_51 rfl) t_11 rfl ?_
    refine g_go 2 md_51 (i1 := 11) rfl ?_
    refine g_getf (n_q md_51 rfl) t_11 rfl ?_
    refine g_go 1 md_51 (i1 := 13) rfl ?_
    obtain ⟨h4, H⟩ := g_gd H
    obtain ⟨s6, hs6, H⟩ := g_bind H
    refine n_call (n_q md_51 rfl) (As := [.ref ((s2 11 4).toNatClampNeg), .int ((1 : Int32) <<< ((s2 11 8) &&& 31))]) (rest := []) rfl rfl (Nat.le_of_ble_eq_true rfl) rfl (g_recv (b := 0) rfl h4 rfl) (C32 h4 (by omega) hs6) ?_
    refine g_go 1 md_51 (i1 := 15) rfl ?_
    obtain ⟨s8, hs8, H⟩ := g_bind H
    refine n_call (n_q md_51 rfl) (As := [.ref 11]) (rest := []) rfl rfl (Nat.le_of_ble_eq_true rfl) rfl (g_recv (b := 0) rfl t_11 rfl) (C68 (by omega) hs8) ?_
    refine g_go 1 md_51 (i1 := 17) rfl ?_
    cases H
    exact n_iret (n_q md_51 rfl) (Or.inr rfl)

theorem md_50 : m_md 50 = m_X5_readTerms := rfl
noncomputable def f50_5 (s : g_S) (x1 : Int32) (x2 : Int32) : Option ((Int32 × Int32 × g_S) ⊕ (Int32 × g_S)) := (if x1 = 0 then (if m_isb x1 = true then some (.inr ((x1, s))) else none) else (if x2 < (s 11 3) then (if (s 11 5) = 44 then ((f68 s).bind fun s5 => g_bd (f51 s5) fun v6 s7 => some (.inl (v6, (x2 + 1, s7)))) else (if m_isb x1 = true then some (.inr ((x1, s))) else none)) else (if m_isb x1 = true then some (.inr ((x1, s))) else none)))
theorem P50_5 {d ex : Nat} {rr : m_R} {s : g_S} {x1 : Int32} {x2 : Int32}   {z : ((Int32 × Int32 × g_S) ⊕ (Int32 × g_S))} (H : f50_5 s x1 x2 = some z) (hd : 15 ≤ d) (K0 : ∀ S : Int32 × Int32 × g_S, z = .inl S → n_R X (d + 1) 50 5 [some (.ref 11), some (.int S.1), some (.int S.2.1)] [] (g_M S.2.2 ex) rr) (Kr : ∀ q, z = .inr (q) → g_rSI q ex = rr) : n_R X (d + 1) 50 5 [some (.ref 11), some (.int x1), some (.int x2)] [] (g_M s ex) rr := by
  unfold f50_5 at H
  refine g_go 1 md_50 (i1 := 6) rfl ?_
  by_cases h1 : x1 = 0
  · rw [if_pos h1] at H
    refine n_ifT (n_q md_50 rfl) (decide_eq_true h1) ?_
    refine g_go 1 md_50 (i1 := 23) rfl ?_
    obtain ⟨hb2, H⟩ := g_gd H
    cases H
    rw [← Kr _ rfl]
    exact n_iret (n_q md_50 rfl) (Or.inr hb2)
  · rw [if_neg h1] at H
    refine n_ifF (n_q md_50 rfl) (fun e1 => h1 (of_decide_eq_true e1)) ?_
    refine g_go 2 md_50 (i1 := 9) rfl ?_
    refine g_getf (n_q md_50 rfl) t_11 rfl ?_
    by_cases h2 : x2 < (s 11 3)
    · rw [if_pos h2] at H
      refine n_cmpF (n_q md_50 rfl) (fun e1 => absurd (of_decide_eq_true e1) (Int32.not_le.mpr h2)) ?_
      refine g_go 1 md_50 (i1 := 12) rfl ?_
      refine g_getf (n_q md_50 rfl) t_11 rfl ?_
      refine g_go 1 md_50 (i1 := 14) rfl ?_
      by_cases h3 : (s 11 5) = 44
      · rw [if_pos h3] at H
        refine n_cmpF (n_q md_50 rfl) (fun e1 => of_decide_eq_true e1 h3) ?_
        refine g_go 1 md_50 (i1 := 16) rfl ?_
        obtain ⟨s5, hs5, H⟩ := g_bind H
        refine n_call (n_q md_50 rfl) (As := [.ref 11]) (rest := []) rfl rfl (Nat.le_of_ble_eq_true rfl) rfl (g_recv (b := 0) rfl t_11 rfl) (C68 (by omega) hs5) ?_
        refine g_go 1 md_50 (i1 := 18) rfl ?_
        obtain ⟨v6, s7, hv6, H⟩ := g_bdp H
        refine n_callv (n_q md_50 rfl) (As := [.ref 11]) (rest := []) rfl rfl (Nat.le_of_ble_eq_true rfl) rfl (g_recv (b := 0) rfl t_11 rfl) (C51 (by omega) hv6) ?_
        refine g_go 3 md_50 (i1 := 5) (ls1 := [some (.ref 11), some (.int v6), some (.int (x2 + 1))]) rfl ?_
        cases H
        exact K0 (v6, (x2 + 1, s7)) rfl
      · rw [if_neg h3] at H
        refine n_cmpT (n_q md_50 rfl) (decide_eq_true h3) ?_
        refine g_go 1 md_50 (i1 := 23) rfl ?_
        obtain ⟨hb4, H⟩ := g_gd H
        cases H
        rw [← Kr _ rfl]
        exact n_iret (n_q md_50 rfl) (Or.inr hb4)
    · rw [if_neg h2] at H
      refine n_cmpT (n_q md_50 rfl) (decide_eq_true (Int32.not_lt.mp h2)) ?_
      refine g_go 1 md_50 (i1 := 23) rfl ?_
      obtain ⟨hb3, H⟩ := g_gd H
      cases H
      rw [← Kr _ rfl]
      exact n_iret (n_q md_50 rfl) (Or.inr hb3)
noncomputable def f50_5L (s : g_S) (x1 : Int32) (x2 : Int32) : Option (Int32 × g_S) := g_run (fun S : Int32 × Int32 × g_S => f50_5 S.2.2 S.1 S.2.1) (x1, (x2, s))
theorem f50_5L_eq (s : g_S) (x1 : Int32) (x2 : Int32) : f50_5L s x1 x2 = g_st (f50_5 s x1 x2) (fun S => f50_5L S.2.2 S.1 S.2.1) := by
  unfold f50_5L
  exact g_run_eq _ _
theorem P50_5L {d ex : Nat} {s : g_S} {x1 : Int32} {x2 : Int32}   {z : (Int32 × g_S)} (H : f50_5L s x1 x2 = some z) (hd : 15 ≤ d)  : n_R X (d + 1) 50 5 [some (.ref 11), some (.int x1), some (.int x2)] [] (g_M s ex) (g_rSI z ex) := by
  unfold f50_5L at H
  refine g_rs (Q := fun S => n_R X (d + 1) 50 5 [some (.ref 11), some (.int S.1), some (.int S.2.1)] [] (g_M S.2.2 ex) (g_rSI z ex)) H ?_
  intro S w hb K0 KK
  refine P50_5 hb hd ?_ ?_
  · exact fun S1 e1 => K0 S1 e1
  · exact fun q e1 => by rw [KK q e1]
noncomputable def f50 (s : g_S) : Option (Int32 × g_S) := (g_bd (f51 s) fun v1 s2 => f50_5L s2 v1 0)
theorem C50 {d ex : Nat} {s : g_S}  {z : Int32 × g_S} (hd : 15 < d) (H : f50 s = some z) : n_C X d 50 [.ref 11] (g_M s ex) (g_rSI z ex) := by
  obtain ⟨d, rfl⟩ : ∃ d1, d = d1 + 1 := ⟨d - 1, by omega⟩
  replace hd := Nat.le_of_lt_succ hd
  refine ⟨Nat.le_of_ble_eq_true rfl, ?_⟩
  rw [md_50]
  show n_R X (d + 1) 50 0 [some (.ref 11), none, none] [] (g_M s ex) _
  unfold f50 at H
  refine g_go 1 md_50 (i1 := 1) rfl ?_
  obtain ⟨v1, s2, hv1, H⟩ := g_bdp H
  refine n_callv (n_q md_50 rfl) (As := [.ref 11]) (rest := []) rfl rfl (Nat.le_of_ble_eq_true rfl) rfl (g_recv (b := 0) rfl t_11 rfl) (C51 (by omega) hv1) ?_
  refine g_go 3 md_50 (i1 := 5) (ls1 := [some (.ref 11), some (.int v1), some (.int 0)]) rfl ?_
  exact P50_5L H hd

theorem md_65 : m_md 65 = m_X5_takeWord := rfl
noncomputable def f65 (s : g_S) (p1 : Nat) : Option (Int32 × g_S) := ((f72 s p1).bind fun v1 => if v1 = 0 then ((f68 s).bind fun s4 => some ((1, s4))) else (some ((0, s))))
theorem C65 {d ex : Nat} {s : g_S} {p1 : Nat} (ph1 : p1 < m_text.length) {z : Int32 × g_S} (hd : 14 < d) (H : f65 s p1 = some z) : n_C X d 65 [.ref 11, .ref (m_T0 + p1)] (g_M s ex) (g_rSI z ex) := by
  obtain ⟨d, rfl⟩ : ∃ d1, d = d1 + 1 := ⟨d - 1, by omega⟩
  replace hd := Nat.le_of_lt_succ hd
  refine ⟨Nat.le_of_ble_eq_true rfl, ?_⟩
  rw [md_65]
  show n_R X (d + 1) 65 0 [some (.ref 11), some (.ref (m_T0 + p1))] [] (g_M s ex) _
  unfold f65 at H
  refine g_go 2 md_65 (i1 := 2) rfl ?_
  obtain ⟨v1, hv1, H⟩ := g_bind H
  refine n_callv (n_q md_65 rfl) (As := [.ref 11, .ref (m_T0 + p1)]) (rest := []) rfl rfl (Nat.le_of_ble_eq_true rfl) rfl (g_recv (b := 0) rfl t_11 rfl) (C72 ph1 (by omega) hv1) ?_
  by_cases h2 : v1 = 0
  · rw [if_pos h2] at H
    refine n_ifT (n_q md_65 rfl) (decide_eq_true h2) ?_
    refine g_go 1 md_65 (i1 := 7) rfl ?_
    obtain ⟨s4, hs4, H⟩ := g_bind H
    refine n_call (n_q md_65 rfl) (As := [.ref 11]) (rest := []) rfl rfl (Nat.le_of_ble_eq_true rfl) rfl (g_recv (b := 0) rfl t_11 rfl) (C68 (by omega) hs4) ?_
    refine g_go 1 md_65 (i1 := 9) rfl ?_
    cases H
    exact n_iret (n_q md_65 rfl) (Or.inr rfl)
  · rw [if_neg h2] at H
    refine n_ifF (n_q md_65 rfl) (fun e1 => h2 (of_decide_eq_true e1)) ?_
    refine g_go 1 md_65 (i1 := 5) rfl ?_
    cases H
    exact n_iret (n_q md_65 rfl) (Or.inr rfl)

theorem md_53 : m_md 53 = m_X5_readBoth := rfl
noncomputable def f53_5 (φ : g_S → Option (Int32 × g_S)) (s : g_S) (x1 : Int32) (x2 : Int32) : Option ((Int32 × Int32 × g_S) ⊕ (Int32 × g_S)) := (if x1 = 0 then (if m_isb x1 = true then some (.inr ((x1, s))) else none) else (if x2 < (s 11 3) then (g_bd (f65 s 7) fun v3 s4 => if v3 = 0 then (if m_isb x1 = true then some (.inr ((x1, s4))) else none) else (g_bd (φ s4) fun v6 s7 => if g_lay (s7 11 4).toNatClampNeg = o_4 (s7 11 4).toNatClampNeg then (f33 s7 ((s7 11 4).toNatClampNeg) 38).bind fun s10 => some (.inl (v6, (x2 + 1, s10))) else none)) else (if m_isb x1 = true then some (.inr ((x1, s))) else none)))
theorem P53_5 {d ex : Nat} {rr : m_R} {L : Nat} {φ : g_S → Option (Int32 × g_S)} {s : g_S} {x1 : Int32} {x2 : Int32}   {z : ((Int32 × Int32 × g_S) ⊕ (Int32 × g_S))} (H : f53_5 φ s x1 x2 = some z) (hL : 53 ≤ L) (hφ : ∀ d1, L ≤ d1 → ∀ {ex : Nat} {s : g_S} {z}, φ s = some z → n_C X d1 54 [.ref 11] (g_M s ex) (g_rSI z ex)) (hd : L + 0 ≤ d) (K0 : ∀ S : Int32 × Int32 × g_S, z = .inl S → n_R X (d + 1) 53 5 [some (.ref 11), some (.int S.1), some (.int S.2.1)] [] (g_M S.2.2 ex) rr) (Kr : ∀ q, z = .inr (q) → g_rSI q ex = rr) : n_R X (d + 1) 53 5 [some (.ref 11), some (.int x1), some (.int x2)] [] (g_M s ex) rr := by
  unfold f53_5 at H
  refine g_go 1 md_53 (i1 := 6) rfl ?_
  by_cases h1 : x1 = 0
  · rw [if_pos h1] at H
    refine n_ifT (n_q md_53 rfl) (decide_eq_true h1) ?_
    refine g_go 1 md_53 (i1 := 25) rfl ?_
    obtain ⟨hb2, H⟩ := g_gd H
    cases H
    rw [← Kr _ rfl]
    exact n_iret (n_q md_53 rfl) (Or.inr hb2)
  · rw [if_neg h1] at H
    refine n_ifF (n_q md_53 rfl) (fun e1 => h1 (of_decide_eq_true e1)) ?_
    refine g_go 2 md_53 (i1 := 9) rfl ?_
    refine g_getf (n_q md_53 rfl) t_11 rfl ?_
    by_cases h2 : x2 < (s 11 3)
    · rw [if_pos h2] at H
      refine n_cmpF (n_q md_53 rfl) (fun e1 => absurd (of_decide_eq_true e1) (Int32.not_le.mpr h2)) ?_
      refine g_go 2 md_53 (i1 := 13) rfl ?_
      obtain ⟨v3, s4, hv3, H⟩ := g_bdp H
      refine n_callv (n_q md_53 rfl) (As := [.ref 11, .ref (m_T0 + 7)]) (rest := []) rfl rfl (Nat.le_of_ble_eq_true rfl) rfl (g_recv (b := 0) rfl t_11 rfl) (C65 (by decide : 7 < m_text.length) (by omega) hv3) ?_
      by_cases h5 : v3 = 0
      · rw [if_pos h5] at H
        refine n_ifT (n_q md_53 rfl) (decide_eq_true h5) ?_
        refine g_go 1 md_53 (i1 := 25) rfl ?_
        obtain ⟨hb6, H⟩ := g_gd H
        cases H
        rw [← Kr _ rfl]
        exact n_iret (n_q md_53 rfl) (Or.inr hb6)
      · rw [if_neg h5] at H
        refine n_ifF (n_q md_53 rfl) (fun e1 => h5 (of_decide_eq_true e1)) ?_
        refine g_go 1 md_53 (i1 := 16) rfl ?_
        obtain ⟨v6, s7, hv6, H⟩ := g_bdp H
        refine n_callv (n_q md_53 rfl) (As := [.ref 11]) (rest := []) rfl rfl (Nat.le_of_ble_eq_true rfl) rfl (g_recv (b := 0) rfl t_11 rfl) (hφ _ (by omega) hv6) ?_
        refine g_go 2 md_53 (i1 := 19) (ls1 := [some (.ref 11), some (.int v6), some (.int x2)]) rfl ?_
        refine g_getd (n_q md_53 rfl) t_11 rfl ?_
        refine g_go 1 md_53 (i1 := 21) rfl ?_
        obtain ⟨h8, H⟩ := g_gd H
        obtain ⟨s10, hs10, H⟩ := g_bind H
        refine n_call (n_q md_53 rfl) (As := [.ref ((s7 11 4).toNatClampNeg), .int 38]) (rest := []) rfl rfl (Nat.le_of_ble_eq_true rfl) rfl (g_recv (b := 0) rfl h8 rfl) (C33 h8 (by omega) hs10) ?_
        refine g_go 2 md_53 (i1 := 5) (ls1 := [some (.ref 11), some (.int v6), some (.int (x2 + 1))]) rfl ?_
        cases H
        exact K0 (v6, (x2 + 1, s10)) rfl
    · rw [if_neg h2] at H
      refine n_cmpT (n_q md_53 rfl) (decide_eq_true (Int32.not_lt.mp h2)) ?_
      refine g_go 1 md_53 (i1 := 25) rfl ?_
      obtain ⟨hb3, H⟩ := g_gd H
      cases H
      rw [← Kr _ rfl]
      exact n_iret (n_q md_53 rfl) (Or.inr hb3)
noncomputable def f53_5L (φ : g_S → Option (Int32 × g_S)) (s : g_S) (x1 : Int32) (x2 : Int32) : Option (Int32 × g_S) := g_run (fun S : Int32 × Int32 × g_S => f53_5 φ S.2.2 S.1 S.2.1) (x1, (x2, s))
theorem f53_5L_eq (φ : g_S → Option (Int32 × g_S)) (s : g_S) (x1 : Int32) (x2 : Int32) : f53_5L φ s x1 x2 = g_st (f53_5 φ s x1 x2) (fun S => f53_5L φ S.2.2 S.1 S.2.1) := by
  unfold f53_5L
  exact g_run_eq _ _
theorem P53_5L {d ex : Nat} {L : Nat} {φ : g_S → Option (Int32 × g_S)} {s : g_S} {x1 : Int32} {x2 : Int32}   {z : (Int32 × g_S)} (H : f53_5L φ s x1 x2 = some z) (hL : 53 ≤ L) (hφ : ∀ d1, L ≤ d1 → ∀ {ex : Nat} {s : g_S} {z}, φ s = some z → n_C X d1 54 [.ref 11] (g_M s ex) (g_rSI z ex)) (hd : L + 0 ≤ d)  : n_R X (d + 1) 53 5 [some (.ref 11), some (.int x1), some (.int x2)] [] (g_M s ex) (g_rSI z ex) := by
  unfold f53_5L at H
  refine g_rs (Q := fun S => n_R X (d + 1) 53 5 [some (.ref 11), some (.int S.1), some (.int S.2.1)] [] (g_M S.2.2 ex) (g_rSI z ex)) H ?_
  intro S w hb K0 KK
  refine P53_5 hb hL hφ hd ?_ ?_
  · exact fun S1 e1 => K0 S1 e1
  · exact fun q e1 => by rw [KK q e1]
noncomputable def f53 (φ : g_S → Option (Int32 × g_S)) (s : g_S) : Option (Int32 × g_S) := (g_bd (φ s) fun v1 s2 => f53_5L φ s2 v1 0)
theorem C53 {d ex : Nat} {L : Nat} {φ : g_S → Option (Int32 × g_S)} {s : g_S}  {z : Int32 × g_S} (hL : 53 ≤ L) (hφ : ∀ d1, L ≤ d1 → ∀ {ex : Nat} {s : g_S} {z}, φ s = some z → n_C X d1 54 [.ref 11] (g_M s ex) (g_rSI z ex)) (hd : L + 0 < d) (H : f53 φ s = some z) : n_C X d 53 [.ref 11] (g_M s ex) (g_rSI z ex) := by
  obtain ⟨d, rfl⟩ : ∃ d1, d = d1 + 1 := ⟨d - 1, by omega⟩
  replace hd := Nat.le_of_lt_succ hd
  refine ⟨Nat.le_of_ble_eq_true rfl, ?_⟩
  rw [md_53]
  show n_R X (d + 1) 53 0 [some (.ref 11), none, none] [] (g_M s ex) _
  unfold f53 at H
  refine g_go 1 md_53 (i1 := 1) rfl ?_
  obtain ⟨v1, s2, hv1, H⟩ := g_bdp H
  refine n_callv (n_q md_53 rfl) (As := [.ref 11]) (rest := []) rfl rfl (Nat.le_of_ble_eq_true rfl) rfl (g_recv (b := 0) rfl t_11 rfl) (hφ _ (by omega) hv1) ?_
  refine g_go 3 md_53 (i1 := 5) (ls1 := [some (.ref 11), some (.int v1), some (.int 0)]) rfl ?_
  exact P53_5L H hL hφ hd

theorem md_52 : m_md 52 = m_X5_readEither := rfl
noncomputable def f52_5 (φ : g_S → Option (Int32 × g_S)) (s : g_S) (x1 : Int32) (x2 : Int32) : Option ((Int32 × Int32 × g_S) ⊕ (Int32 × g_S)) := (if x1 = 0 then (if m_isb x1 = true then some (.inr ((x1, s))) else none) else (if x2 < (s 11 3) then (g_bd (f65 s 6) fun v3 s4 => if v3 = 0 then (if m_isb x1 = true then some (.inr ((x1, s4))) else none) else (g_bd (f53 φ s4) fun v6 s7 => if g_lay (s7 11 4).toNatClampNeg = o_4 (s7 11 4).toNatClampNeg then (f33 s7 ((s7 11 4).toNatClampNeg) 124).bind fun s10 => some (.inl (v6, (x2 + 1, s10))) else none)) else (if m_isb x1 = true then some (.inr ((x1, s))) else none)))
theorem P52_5 {d ex : Nat} {rr : m_R} {L : Nat} {φ : g_S → Option (Int32 × g_S)} {s : g_S} {x1 : Int32} {x2 : Int32}   {z : ((Int32 × Int32 × g_S) ⊕ (Int32 × g_S))} (H : f52_5 φ s x1 x2 = some z) (hL : 53 ≤ L) (hφ : ∀ d1, L ≤ d1 → ∀ {ex : Nat} {s : g_S} {z}, φ s = some z → n_C X d1 54 [.ref 11] (g_M s ex) (g_rSI z ex)) (hd : L + 1 ≤ d) (K0 : ∀ S : Int32 × Int32 × g_S, z = .inl S → n_R X (d + 1) 52 5 [some (.ref 11), some (.int S.1), some (.int S.2.1)] [] (g_M S.2.2 ex) rr) (Kr : ∀ q, z = .inr (q) → g_rSI q ex = rr) : n_R X (d + 1) 52 5 [some (.ref 11), some (.int x1), some (.int x2)] [] (g_M s ex) rr := by
  unfold f52_5 at H
  refine g_go 1 md_52 (i1 := 6) rfl ?_
  by_cases h1 : x1 = 0
  · rw [if_pos h1] at H
    refine n_ifT (n_q md_52 rfl) (decide_eq_true h1) ?_
    refine g_go 1 md_52 (i1 := 25) rfl ?_
    obtain ⟨hb2, H⟩ := g_gd H
    cases H
    rw [← Kr _ rfl]
    exact n_iret (n_q md_52 rfl) (Or.inr hb2)
  · rw [if_neg h1] at H
    refine n_ifF (n_q md_52 rfl) (fun e1 => h1 (of_decide_eq_true e1)) ?_
    refine g_go 2 md_52 (i1 := 9) rfl ?_
    refine g_getf (n_q md_52 rfl) t_11 rfl ?_
    by_cases h2 : x2 < (s 11 3)
    · rw [if_pos h2] at H
      refine n_cmpF (n_q md_52 rfl) (fun e1 => absurd (of_decide_eq_true e1) (Int32.not_le.mpr h2)) ?_
      refine g_go 2 md_52 (i1 := 13) rfl ?_
      obtain ⟨v3, s4, hv3, H⟩ := g_bdp H
      refine n_callv (n_q md_52 rfl) (As := [.ref 11, .ref (m_T0 + 6)]) (rest := []) rfl rfl (Nat.le_of_ble_eq_true rfl) rfl (g_recv (b := 0) rfl t_11 rfl) (C65 (by decide : 6 < m_text.length) (by omega) hv3) ?_
      by_cases h5 : v3 = 0
      · rw [if_pos h5] at H
        refine n_ifT (n_q md_52 rfl) (decide_eq_true h5) ?_
        refine g_go 1 md_52 (i1 := 25) rfl ?_
        obtain ⟨hb6, H⟩ := g_gd H
        cases H
        rw [← Kr _ rfl]
        exact n_iret (n_q md_52 rfl) (Or.inr hb6)
      · rw [if_neg h5] at H
        refine n_ifF (n_q md_52 rfl) (fun e1 => h5 (of_decide_eq_true e1)) ?_
        refine g_go 1 md_52 (i1 := 16) rfl ?_
        obtain ⟨v6, s7, hv6, H⟩ := g_bdp H
        refine n_callv (n_q md_52 rfl) (As := [.ref 11]) (rest := []) rfl rfl (Nat.le_of_ble_eq_true rfl) rfl (g_recv (b := 0) rfl t_11 rfl) (C53 hL hφ (by omega) hv6) ?_
        refine g_go 2 md_52 (i1 := 19) (ls1 := [some (.ref 11), some (.int v6), some (.int x2)]) rfl ?_
        refine g_getd (n_q md_52 rfl) t_11 rfl ?_
        refine g_go 1 md_52 (i1 := 21) rfl ?_
        obtain ⟨h8, H⟩ := g_gd H
        obtain ⟨s10, hs10, H⟩ := g_bind H
        refine n_call (n_q md_52 rfl) (As := [.ref ((s7 11 4).toNatClampNeg), .int 124]) (rest := []) rfl rfl (Nat.le_of_ble_eq_true rfl) rfl (g_recv (b := 0) rfl h8 rfl) (C33 h8 (by omega) hs10) ?_
        refine g_go 2 md_52 (i1 := 5) (ls1 := [some (.ref 11), some (.int v6), some (.int (x2 + 1))]) rfl ?_
        cases H
        exact K0 (v6, (x2 + 1, s10)) rfl
    · rw [if_neg h2] at H
      refine n_cmpT (n_q md_52 rfl) (decide_eq_true (Int32.not_lt.mp h2)) ?_
      refine g_go 1 md_52 (i1 := 25) rfl ?_
      obtain ⟨hb3, H⟩ := g_gd H
      cases H
      rw [← Kr _ rfl]
      exact n_iret (n_q md_52 rfl) (Or.inr hb3)
noncomputable def f52_5L (φ : g_S → Option (Int32 × g_S)) (s : g_S) (x1 : Int32) (x2 : Int32) : Option (Int32 × g_S) := g_run (fun S : Int32 × Int32 × g_S => f52_5 φ S.2.2 S.1 S.2.1) (x1, (x2, s))
theorem f52_5L_eq (φ : g_S → Option (Int32 × g_S)) (s : g_S) (x1 : Int32) (x2 : Int32) : f52_5L φ s x1 x2 = g_st (f52_5 φ s x1 x2) (fun S => f52_5L φ S.2.2 S.1 S.2.1) := by
  unfold f52_5L
  exact g_run_eq _ _
theorem P52_5L {d ex : Nat} {L : Nat} {φ : g_S → Option (Int32 × g_S)} {s : g_S} {x1 : Int32} {x2 : Int32}   {z : (Int32 × g_S)} (H : f52_5L φ s x1 x2 = some z) (hL : 53 ≤ L) (hφ : ∀ d1, L ≤ d1 → ∀ {ex : Nat} {s : g_S} {z}, φ s = some z → n_C X d1 54 [.ref 11] (g_M s ex) (g_rSI z ex)) (hd : L + 1 ≤ d)  : n_R X (d + 1) 52 5 [some (.ref 11), some (.int x1), some (.int x2)] [] (g_M s ex) (g_rSI z ex) := by
  unfold f52_5L at H
  refine g_rs (Q := fun S => n_R X (d + 1) 52 5 [some (.ref 11), some (.int S.1), some (.int S.2.1)] [] (g_M S.2.2 ex) (g_rSI z ex)) H ?_
  intro S w hb K0 KK
  refine P52_5 hb hL hφ hd ?_ ?_
  · exact fun S1 e1 => K0 S1 e1
  · exact fun q e1 => by rw [KK q e1]
noncomputable def f52 (φ : g_S → Option (Int32 × g_S)) (s : g_S) : Option (Int32 × g_S) := (g_bd (f53 φ s) fun v1 s2 => f52_5L φ s2 v1 0)
theorem C52 {d ex : Nat} {L : Nat} {φ : g_S → Option (Int32 × g_S)} {s : g_S}  {z : Int32 × g_S} (hL : 53 ≤ L) (hφ : ∀ d1, L ≤ d1 → ∀ {ex : Nat} {s : g_S} {z}, φ s = some z → n_C X d1 54 [.ref 11] (g_M s ex) (g_rSI z ex)) (hd : L + 1 < d) (H : f52 φ s = some z) : n_C X d 52 [.ref 11] (g_M s ex) (g_rSI z ex) := by
  obtain ⟨d, rfl⟩ : ∃ d1, d = d1 + 1 := ⟨d - 1, by omega⟩
  replace hd := Nat.le_of_lt_succ hd
  refine ⟨Nat.le_of_ble_eq_true rfl, ?_⟩
  rw [md_52]
  show n_R X (d + 1) 52 0 [some (.ref 11), none, none] [] (g_M s ex) _
  unfold f52 at H
  refine g_go 1 md_52 (i1 := 1) rfl ?_
  obtain ⟨v1, s2, hv1, H⟩ := g_bdp H
  refine n_callv (n_q md_52 rfl) (As := [.ref 11]) (rest := []) rfl rfl (Nat.le_of_ble_eq_true rfl) rfl (g_recv (b := 0) rfl t_11 rfl) (C53 hL hφ (by omega) hv1) ?_
  refine g_go 3 md_52 (i1 := 5) (ls1 := [some (.ref 11), some (.int v1), some (.int 0)]) rfl ?_
  exact P52_5L H hL hφ hd

theorem md_62 : m_md 62 = m_X5_enter := rfl
noncomputable def f62 (s : g_S) : Option (Int32 × g_S) := (if (s 11 9) < 6 then (g_let (g_w s 11 9 ((s 11 9) + 1)) fun s2 => (f68 s2).bind fun s4 => some ((1, s4))) else (g_bd (f67 s 3) fun v2 s3 => if m_isb v2 = true then some ((v2, s3)) else none))
theorem C62 {d ex : Nat} {s : g_S}  {z : Int32 × g_S} (hd : 14 < d) (H : f62 s = some z) : n_C X d 62 [.ref 11] (g_M s ex) (g_rSI z ex) := by
  obtain ⟨d, rfl⟩ : ∃ d1, d = d1 + 1 := ⟨d - 1, by omega⟩
  replace hd := Nat.le_of_lt_succ hd
  refine ⟨Nat.le_of_ble_eq_true rfl, ?_⟩
  rw [md_62]
  show n_R X (d + 1) 62 0 [some (.ref 11)] [] (g_M s ex) _
  unfold f62 at H
  refine g_go 1 md_62 (i1 := 1) rfl ?_
  refine g_getf (n_q md_62 rfl) t_11 rfl ?_
  refine g_go 1 md_62 (i1 := 3) rfl ?_
  by_cases h1 : (s 11 9) < 6
  · rw [if_pos h1] at H
    refine n_cmpT (n_q md_62 rfl) (decide_eq_true h1) ?_
    refine g_go 2 md_62 (i1 := 10) rfl ?_
    refine g_getf (n_q md_62 rfl) t_11 rfl ?_
    refine g_go 2 md_62 (i1 := 13) rfl ?_
    obtain ⟨s2, es2, H⟩ := g_letp H
    refine g_putf (n_q md_62 rfl) t_11 rfl rfl es2 ?_
    refine g_go 1 md_62 (i1 := 15) rfl ?_
    obtain ⟨s4, hs4, H⟩ := g_bind H
    refine n_call (n_q md_62 rfl) (As := [.ref 11]) (rest := []) rfl rfl (Nat.le_of_ble_eq_true rfl) rfl (g_recv (b := 0) rfl t_11 rfl) (C68 (by omega) hs4) ?_
    refine g_go 1 md_62 (i1 := 17) rfl ?_
    cases H
    exact n_iret (n_q md_62 rfl) (Or.inr rfl)
  · rw [if_neg h1] at H
    refine n_cmpF (n_q md_62 rfl) (fun e1 => h1 (of_decide_eq_true e1)) ?_
    refine g_go 2 md_62 (i1 := 6) rfl ?_
    obtain ⟨v2, s3, hv2, H⟩ := g_bdp H
    refine n_callv (n_q md_62 rfl) (As := [.ref 11, .int 3]) (rest := []) rfl rfl (Nat.le_of_ble_eq_true rfl) rfl (g_recv (b := 0) rfl t_11 rfl) (C67 (by omega) hv2) ?_
    obtain ⟨hb4, H⟩ := g_gd H
    cases H
    exact n_iret (n_q md_62 rfl) (Or.inr hb4)

theorem md_55 : m_md 55 = m_X5_readNot := rfl
noncomputable def f55 (φ : g_S → Option (Int32 × g_S)) (s : g_S) : Option (Int32 × g_S) := (g_bd (f62 s) fun v1 s2 => if v1 = 0 then (some ((0, s2))) else (g_bd (φ s2) fun v4 s5 => if v4 = 0 then (some ((0, s5))) else (g_let (g_w s5 11 9 ((s5 11 9) - 1)) fun s7 => if g_lay (s7 11 4).toNatClampNeg = o_4 (s7 11 4).toNatClampNeg then (f33 s7 ((s7 11 4).toNatClampNeg) 33).bind fun s10 => some ((1, s10)) else none)))
theorem C55 {d ex : Nat} {L : Nat} {φ : g_S → Option (Int32 × g_S)} {s : g_S}  {z : Int32 × g_S} (hL : 53 ≤ L) (hφ : ∀ d1, L ≤ d1 → ∀ {ex : Nat} {s : g_S} {z}, φ s = some z → n_C X d1 54 [.ref 11] (g_M s ex) (g_rSI z ex)) (hd : L + 0 < d) (H : f55 φ s = some z) : n_C X d 55 [.ref 11] (g_M s ex) (g_rSI z ex) := by
  obtain ⟨d, rfl⟩ : ∃ d1, d = d1 + 1 := ⟨d - 1, by omega⟩
  replace hd := Nat.le_of_lt_succ hd
  refine ⟨Nat.le_of_ble_eq_true rfl, ?_⟩
  rw [md_55]
  show n_R X (d + 1) 55 0 [some (.ref 11)] [] (g_M s ex) _
  unfold f55 at H
  refine g_go 1 md_55 (i1 := 1) rfl ?_
  obtain ⟨v1, s2, hv1, H⟩ := g_bdp H
  refine n_callv (n_q md_55 rfl) (As := [.ref 11]) (rest := []) rfl rfl (Nat.le_of_ble_eq_true rfl) rfl (g_recv (b := 0) rfl t_11 rfl) (C62 (by omega) hv1) ?_
  by_cases h3 : v1 = 0
  · rw [if_pos h3] at H
    refine n_ifT (n_q md_55 rfl) (decide_eq_true h3) ?_
    refine g_go 1 md_55 (i1 := 7) rfl ?_
    cases H
    exact n_iret (n_q md_55 rfl) (Or.inr rfl)
  · rw [if_neg h3] at H
    refine n_ifF (n_q md_55 rfl) (fun e1 => h3 (of_decide_eq_true e1)) ?_
    refine g_go 1 md_55 (i1 := 4) rfl ?_
    obtain ⟨v4, s5, hv4, H⟩ := g_bdp H
    refine n_callv (n_q md_55 rfl) (As := [.ref 11]) (rest := []) rfl rfl (Nat.le_of_ble_eq_true rfl) rfl (g_recv (b := 0) rfl t_11 rfl) (hφ _ (by omega) hv4) ?_
    by_cases h6 : v4 = 0
    · rw [if_pos h6] at H
      refine n_ifF (n_q md_55 rfl) (fun e1 => of_decide_eq_true e1 h6) ?_
      refine g_go 1 md_55 (i1 := 7) rfl ?_
      cases H
      exact n_iret (n_q md_55 rfl) (Or.inr rfl)
    · rw [if_neg h6] at H
      refine n_ifT (n_q md_55 rfl) (decide_eq_true h6) ?_
      refine g_go 2 md_55 (i1 := 10) rfl ?_
      refine g_getf (n_q md_55 rfl) t_11 rfl ?_
      refine g_go 2 md_55 (i1 := 13) rfl ?_
      obtain ⟨s7, es7, H⟩ := g_letp H
      refine g_putf (n_q md_55 rfl) t_11 rfl rfl es7 ?_
      refine g_go 1 md_55 (i1 := 15) rfl ?_
      refine g_getd (n_q md_55 rfl) t_11 rfl ?_
      refine g_go 1 md_55 (i1 := 17) rfl ?_
      obtain ⟨h8, H⟩ := g_gd H
      obtain ⟨s10, hs10, H⟩ := g_bind H
      refine n_call (n_q md_55 rfl) (As := [.ref ((s7 11 4).toNatClampNeg), .int 33]) (rest := []) rfl rfl (Nat.le_of_ble_eq_true rfl) rfl (g_recv (b := 0) rfl h8 rfl) (C33 h8 (by omega) hs10) ?_
      refine g_go 1 md_55 (i1 := 19) rfl ?_
      cases H
      exact n_iret (n_q md_55 rfl) (Or.inr rfl)

theorem md_64 : m_md 64 = m_X5_take := rfl
noncomputable def f64 (s : g_S) (p1 : Int32) : Option (Int32 × g_S) := (if (s 11 5) = p1 then ((f68 s).bind fun s3 => some ((1, s3))) else (g_bd (f67 s 1) fun v2 s3 => if m_isb v2 = true then some ((v2, s3)) else none))
theorem C64 {d ex : Nat} {s : g_S} {p1 : Int32}  {z : Int32 × g_S} (hd : 14 < d) (H : f64 s p1 = some z) : n_C X d 64 [.ref 11, .int p1] (g_M s ex) (g_rSI z ex) := by
  obtain ⟨d, rfl⟩ : ∃ d1, d = d1 + 1 := ⟨d - 1, by omega⟩
  replace hd := Nat.le_of_lt_succ hd
  refine ⟨Nat.le_of_ble_eq_true rfl, ?_⟩
  rw [md_64]
  show n_R X (d + 1) 64 0 [some (.ref 11), some (.int p1)] [] (g_M s ex) _
  unfold f64 at H
  refine g_go 1 md_64 (i1 := 1) rfl ?_
  refine g_getf (n_q md_64 rfl) t_11 rfl ?_
  refine g_go 1 md_64 (i1 := 3) rfl ?_
  by_cases h1 : (s 11 5) = p1
  · rw [if_pos h1] at H
    refine n_cmpT (n_q md_64 rfl) (decide_eq_true h1) ?_
    refine g_go 1 md_64 (i1 := 9) rfl ?_
    obtain ⟨s3, hs3, H⟩ := g_bind H
    refine n_call (n_q md_64 rfl) (As := [.ref 11]) (rest := []) rfl rfl (Nat.le_of_ble_eq_true rfl) rfl (g_recv (b := 0) rfl t_11 rfl) (C68 (by omega) hs3) ?_
    refine g_go 1 md_64 (i1 := 11) rfl ?_
    cases H
    exact n_iret (n_q md_64 rfl) (Or.inr rfl)
  · rw [if_neg h1] at H
    refine n_cmpF (n_q md_64 rfl) (fun e1 => h1 (of_decide_eq_true e1)) ?_
    refine g_go 2 md_64 (i1 := 6) rfl ?_
    obtain ⟨v2, s3, hv2, H⟩ := g_bdp H
    refine n_callv (n_q md_64 rfl) (As := [.ref 11, .int 1]) (rest := []) rfl rfl (Nat.le_of_ble_eq_true rfl) rfl (g_recv (b := 0) rfl t_11 rfl) (C67 (by omega) hv2) ?_
    obtain ⟨hb4, H⟩ := g_gd H
    cases H
    exact n_iret (n_q md_64 rfl) (Or.inr hb4)

theorem md_56 : m_md 56 = m_X5_takeComparison := rfl
noncomputable def f56_8 (s : g_S) : Option (Int32 × g_S) := (g_bd (f64 s (s 11 5)) fun v1 s2 => if m_isb v1 = true then some ((v1, s2)) else none)
theorem P56_8 {d ex : Nat} {s : g_S}   {z : (Int32 × g_S)} (H : f56_8 s = some z) (hd : 15 ≤ d)  : n_R X (d + 1) 56 8 [some (.ref 11)] [] (g_M s ex) (g_rSI z ex) := by
  unfold f56_8 at H
  refine g_go 2 md_56 (i1 := 10) rfl ?_
  refine g_getf (n_q md_56 rfl) t_11 rfl ?_
  obtain ⟨v1, s2, hv1, H⟩ := g_bdp H
  refine n_callv (n_q md_56 rfl) (As := [.ref 11, .int (s 11 5)]) (rest := []) rfl rfl (Nat.le_of_ble_eq_true rfl) rfl (g_recv (b := 0) rfl t_11 rfl) (C64 (by omega) hv1) ?_
  refine g_go 1 md_56 (i1 := 16) rfl ?_
  obtain ⟨hb3, H⟩ := g_gd H
  cases H
  exact n_iret (n_q md_56 rfl) (Or.inr hb3)
noncomputable def f56 (s : g_S) : Option (Int32 × g_S) := (if (s 11 5) = 60 then (f56_8 s) else (if (s 11 5) = 62 then (f56_8 s) else (g_bd (f64 s 61) fun v3 s4 => if m_isb v3 = true then some ((v3, s4)) else none)))
theorem C56 {d ex : Nat} {s : g_S}  {z : Int32 × g_S} (hd : 15 < d) (H : f56 s = some z) : n_C X d 56 [.ref 11] (g_M s ex) (g_rSI z ex) := by
  obtain ⟨d, rfl⟩ : ∃ d1, d = d1 + 1 := ⟨d - 1, by omega⟩
  replace hd := Nat.le_of_lt_succ hd
  refine ⟨Nat.le_of_ble_eq_true rfl, ?_⟩
  rw [md_56]
  show n_R X (d + 1) 56 0 [some (.ref 11)] [] (g_M s ex) _
  unfold f56 at H
  refine g_go 1 md_56 (i1 := 1) rfl ?_
  refine g_getf (n_q md_56 rfl) t_11 rfl ?_
  refine g_go 1 md_56 (i1 := 3) rfl ?_
  by_cases h1 : (s 11 5) = 60
  · rw [if_pos h1] at H
    refine n_cmpT (n_q md_56 rfl) (decide_eq_true h1) ?_
    exact P56_8 H hd
  · rw [if_neg h1] at H
    refine n_cmpF (n_q md_56 rfl) (fun e1 => h1 (of_decide_eq_true e1)) ?_
    refine g_go 1 md_56 (i1 := 5) rfl ?_
    refine g_getf (n_q md_56 rfl) t_11 rfl ?_
    refine g_go 1 md_56 (i1 := 7) rfl ?_
    by_cases h2 : (s 11 5) = 62
    · rw [if_pos h2] at H
      refine n_cmpF (n_q md_56 rfl) (fun e1 => of_decide_eq_true e1 h2) ?_
      exact P56_8 H hd
    · rw [if_neg h2] at H
      refine n_cmpT (n_q md_56 rfl) (decide_eq_true h2) ?_
      refine g_go 2 md_56 (i1 := 15) rfl ?_
      obtain ⟨v3, s4, hv3, H⟩ := g_bdp H
      refine n_callv (n_q md_56 rfl) (As := [.ref 11, .int 61]) (rest := []) rfl rfl (Nat.le_of_ble_eq_true rfl) rfl (g_recv (b := 0) rfl t_11 rfl) (C64 (by omega) hv3) ?_
      obtain ⟨hb5, H⟩ := g_gd H
      cases H
      exact n_iret (n_q md_56 rfl) (Or.inr hb5)

theorem md_58 : m_md 58 = m_X5_readProduct := rfl
noncomputable def f58_19 (φ : g_S → Option (Int32 × g_S)) (s : g_S) (x2 : Int32) : Option ((Int32 × Int32 × g_S) ⊕ (Int32 × g_S)) := ((f68 s).bind fun s2 => g_bd (φ s2) fun v3 s4 => if g_lay (s4 11 4).toNatClampNeg = o_4 (s4 11 4).toNatClampNeg then (f33 s4 ((s4 11 4).toNatClampNeg) (s 11 5)).bind fun s7 => some (.inl (v3, (x2 + 1, s7))) else none)
theorem P58_19 {d ex : Nat} {rr : m_R} {L : Nat} {φ : g_S → Option (Int32 × g_S)} {s : g_S} {x2 : Int32} {u1 u3 : Option Value}   {z : ((Int32 × Int32 × g_S) ⊕ (Int32 × g_S))} (H : f58_19 φ s x2 = some z) (hL : 15 ≤ L) (hφ : ∀ d1, L ≤ d1 → ∀ {ex : Nat} {s : g_S} {z}, φ s = some z → n_C X d1 59 [.ref 11] (g_M s ex) (g_rSI z ex)) (hd : L + 0 ≤ d) (K0 : ∀ S : Int32 × Int32 × g_S, z = .inl S → ∀ u3 : Option Value, n_R X (d + 1) 58 5 [some (.ref 11), some (.int S.1), some (.int S.2.1), u3] [] (g_M S.2.2 ex) rr) (Kr : ∀ q, z = .inr (q) → g_rSI q ex = rr) : n_R X (d + 1) 58 19 [some (.ref 11), u1, some (.int x2), u3] [] (g_M s ex) rr := by
  unfold f58_19 at H
  refine g_go 1 md_58 (i1 := 20) rfl ?_
  refine g_getf (n_q md_58 rfl) t_11 rfl ?_
  refine g_go 2 md_58 (i1 := 23) (ls1 := [some (.ref 11), u1, some (.int x2), some (.int (s 11 5))]) rfl ?_
  obtain ⟨s2, hs2, H⟩ := g_bind H
  refine n_call (n_q md_58 rfl) (As := [.ref 11]) (rest := []) rfl rfl (Nat.le_of_ble_eq_true rfl) rfl (g_recv (b := 0) rfl t_11 rfl) (C68 (by omega) hs2) ?_
  refine g_go 1 md_58 (i1 := 25) rfl ?_
  obtain ⟨v3, s4, hv3, H⟩ := g_bdp H
  refine n_callv (n_q md_58 rfl) (As := [.ref 11]) (rest := []) rfl rfl (Nat.le_of_ble_eq_true rfl) rfl (g_recv (b := 0) rfl t_11 rfl) (hφ _ (by omega) hv3) ?_
  refine g_go 2 md_58 (i1 := 28) (ls1 := [some (.ref 11), some (.int v3), some (.int x2), some (.int (s 11 5))]) rfl ?_
  refine g_getd (n_q md_58 rfl) t_11 rfl ?_
  refine g_go 1 md_58 (i1 := 30) rfl ?_
  obtain ⟨h5, H⟩ := g_gd H
  obtain ⟨s7, hs7, H⟩ := g_bind H
  refine n_call (n_q md_58 rfl) (As := [.ref ((s4 11 4).toNatClampNeg), .int (s 11 5)]) (rest := []) rfl rfl (Nat.le_of_ble_eq_true rfl) rfl (g_recv (b := 0) rfl h5 rfl) (C33 h5 (by omega) hs7) ?_
  refine g_go 2 md_58 (i1 := 5) (ls1 := [some (.ref 11), some (.int v3), some (.int (x2 + 1)), some (.int (s 11 5))]) rfl ?_
  cases H
  exact K0 (v3, (x2 + 1, s7)) rfl _
noncomputable def f58_5 (φ : g_S → Option (Int32 × g_S)) (s : g_S) (x1 : Int32) (x2 : Int32) : Option ((Int32 × Int32 × g_S) ⊕ (Int32 × g_S)) := (if x1 = 0 then (if m_isb x1 = true then some (.inr ((x1, s))) else none) else (if x2 < (s 11 3) then (if (s 11 5) = 42 then (f58_19 φ s x2) else (if (s 11 5) = 47 then (f58_19 φ s x2) else (if m_isb x1 = true then some (.inr ((x1, s))) else none))) else (if m_isb x1 = true then some (.inr ((x1, s))) else none)))
theorem P58_5 {d ex : Nat} {rr : m_R} {L : Nat} {φ : g_S → Option (Int32 × g_S)} {s : g_S} {x1 : Int32} {x2 : Int32} {u3 : Option Value}   {z : ((Int32 × Int32 × g_S) ⊕ (Int32 × g_S))} (H : f58_5 φ s x1 x2 = some z) (hL : 15 ≤ L) (hφ : ∀ d1, L ≤ d1 → ∀ {ex : Nat} {s : g_S} {z}, φ s = some z → n_C X d1 59 [.ref 11] (g_M s ex) (g_rSI z ex)) (hd : L + 0 ≤ d) (K0 : ∀ S : Int32 × Int32 × g_S, z = .inl S → ∀ u3 : Option Value, n_R X (d + 1) 58 5 [some (.ref 11), some (.int S.1), some (.int S.2.1), u3] [] (g_M S.2.2 ex) rr) (Kr : ∀ q, z = .inr (q) → g_rSI q ex = rr) : n_R X (d + 1) 58 5 [some (.ref 11), some (.int x1), some (.int x2), u3] [] (g_M s ex) rr := by
  unfold f58_5 at H
  refine g_go 1 md_58 (i1 := 6) rfl ?_
  by_cases h1 : x1 = 0
  · rw [if_pos h1] at H
    refine n_ifT (n_q md_58 rfl) (decide_eq_true h1) ?_
    refine g_go 1 md_58 (i1 := 34) rfl ?_
    obtain ⟨hb2, H⟩ := g_gd H
    cases H
    rw [← Kr _ rfl]
    exact n_iret (n_q md_58 rfl) (Or.inr hb2)
  · rw [if_neg h1] at H
    refine n_ifF (n_q md_58 rfl) (fun e1 => h1 (of_decide_eq_true e1)) ?_
    refine g_go 2 md_58 (i1 := 9) rfl ?_
    refine g_getf (n_q md_58 rfl) t_11 rfl ?_
    by_cases h2 : x2 < (s 11 3)
    · rw [if_pos h2] at H
      refine n_cmpF (n_q md_58 rfl) (fun e1 => absurd (of_decide_eq_true e1) (Int32.not_le.mpr h2)) ?_
      refine g_go 1 md_58 (i1 := 12) rfl ?_
      refine g_getf (n_q md_58 rfl) t_11 rfl ?_
      refine g_go 1 md_58 (i1 := 14) rfl ?_
      by_cases h3 : (s 11 5) = 42
      · rw [if_pos h3] at H
        refine n_cmpT (n_q md_58 rfl) (decide_eq_true h3) ?_
        exact P58_19 H hL hφ hd K0 Kr
      · rw [if_neg h3] at H
        refine n_cmpF (n_q md_58 rfl) (fun e1 => h3 (of_decide_eq_true e1)) ?_
        refine g_go 1 md_58 (i1 := 16) rfl ?_
        refine g_getf (n_q md_58 rfl) t_11 rfl ?_
        refine g_go 1 md_58 (i1 := 18) rfl ?_
        by_cases h4 : (s 11 5) = 47
        · rw [if_pos h4] at H
          refine n_cmpF (n_q md_58 rfl) (fun e1 => of_decide_eq_true e1 h4) ?_
          exact P58_19 H hL hφ hd K0 Kr
        · rw [if_neg h4] at H
          refine n_cmpT (n_q md_58 rfl) (decide_eq_true h4) ?_
          refine g_go 1 md_58 (i1 := 34) rfl ?_
          obtain ⟨hb5, H⟩ := g_gd H
          cases H
          rw [← Kr _ rfl]
          exact n_iret (n_q md_58 rfl) (Or.inr hb5)
    · rw [if_neg h2] at H
      refine n_cmpT (n_q md_58 rfl) (decide_eq_true (Int32.not_lt.mp h2)) ?_
      refine g_go 1 md_58 (i1 := 34) rfl ?_
      obtain ⟨hb3, H⟩ := g_gd H
      cases H
      rw [← Kr _ rfl]
      exact n_iret (n_q md_58 rfl) (Or.inr hb3)
noncomputable def f58_5L (φ : g_S → Option (Int32 × g_S)) (s : g_S) (x1 : Int32) (x2 : Int32) : Option (Int32 × g_S) := g_run (fun S : Int32 × Int32 × g_S => f58_5 φ S.2.2 S.1 S.2.1) (x1, (x2, s))
theorem f58_5L_eq (φ : g_S → Option (Int32 × g_S)) (s : g_S) (x1 : Int32) (x2 : Int32) : f58_5L φ s x1 x2 = g_st (f58_5 φ s x1 x2) (fun S => f58_5L φ S.2.2 S.1 S.2.1) := by
  unfold f58_5L
  exact g_run_eq _ _
theorem P58_5L {d ex : Nat} {L : Nat} {φ : g_S → Option (Int32 × g_S)} {s : g_S} {x1 : Int32} {x2 : Int32} {u3 : Option Value}   {z : (Int32 × g_S)} (H : f58_5L φ s x1 x2 = some z) (hL : 15 ≤ L) (hφ : ∀ d1, L ≤ d1 → ∀ {ex : Nat} {s : g_S} {z}, φ s = some z → n_C X d1 59 [.ref 11] (g_M s ex) (g_rSI z ex)) (hd : L + 0 ≤ d)  : n_R X (d + 1) 58 5 [some (.ref 11), some (.int x1), some (.int x2), u3] [] (g_M s ex) (g_rSI z ex) := by
  unfold f58_5L at H
  refine g_rs (Q := fun S => ∀ u3 : Option Value, n_R X (d + 1) 58 5 [some (.ref 11), some (.int S.1), some (.int S.2.1), u3] [] (g_M S.2.2 ex) (g_rSI z ex)) H ?_ u3
  intro S w hb K0 KK u3
  refine P58_5 hb hL hφ hd ?_ ?_
  · exact fun S1 e1 => K0 S1 e1
  · exact fun q e1 => by rw [KK q e1]
noncomputable def f58 (φ : g_S → Option (Int32 × g_S)) (s : g_S) : Option (Int32 × g_S) := (g_bd (φ s) fun v1 s2 => f58_5L φ s2 v1 0)
theorem C58 {d ex : Nat} {L : Nat} {φ : g_S → Option (Int32 × g_S)} {s : g_S}  {z : Int32 × g_S} (hL : 15 ≤ L) (hφ : ∀ d1, L ≤ d1 → ∀ {ex : Nat} {s : g_S} {z}, φ s = some z → n_C X d1 59 [.ref 11] (g_M s ex) (g_rSI z ex)) (hd : L + 0 < d) (H : f58 φ s = some z) : n_C X d 58 [.ref 11] (g_M s ex) (g_rSI z ex) := by
  obtain ⟨d, rfl⟩ : ∃ d1, d = d1 + 1 := ⟨d - 1, by omega⟩
  replace hd := Nat.le_of_lt_succ hd
  refine ⟨Nat.le_of_ble_eq_true rfl, ?_⟩
  rw [md_58]
  show n_R X (d + 1) 58 0 [some (.ref 11), none, none, none] [] (g_M s ex) _
  unfold f58 at H
  refine g_go 1 md_58 (i1 := 1) rfl ?_
  obtain ⟨v1, s2, hv1, H⟩ := g_bdp H
  refine n_callv (n_q md_58 rfl) (As := [.ref 11]) (rest := []) rfl rfl (Nat.le_of_ble_eq_true rfl) rfl (g_recv (b := 0) rfl t_11 rfl) (hφ _ (by omega) hv1) ?_
  refine g_go 3 md_58 (i1 := 5) (ls1 := [some (.ref 11), some (.int v1), some (.int 0), none]) rfl ?_
  exact P58_5L H hL hφ hd

theorem md_57 : m_md 57 = m_X5_readSum := rfl
noncomputable def f57_19 (φ : g_S → Option (Int32 × g_S)) (s : g_S) (x2 : Int32) : Option ((Int32 × Int32 × g_S) ⊕ (Int32 × g_S)) := ((f68 s).bind fun s2 => g_bd (f58 φ s2) fun v3 s4 => if g_lay (s4 11 4).toNatClampNeg = o_4 (s4 11 4).toNatClampNeg then (f33 s4 ((s4 11 4).toNatClampNeg) (s 11 5)).bind fun s7 => some (.inl (v3, (x2 + 1, s7))) else none)
theorem P57_19 {d ex : Nat} {rr : m_R} {L : Nat} {φ : g_S → Option (Int32 × g_S)} {s : g_S} {x2 : Int32} {u1 u3 : Option Value}   {z : ((Int32 × Int32 × g_S) ⊕ (Int32 × g_S))} (H : f57_19 φ s x2 = some z) (hL : 15 ≤ L) (hφ : ∀ d1, L ≤ d1 → ∀ {ex : Nat} {s : g_S} {z}, φ s = some z → n_C X d1 59 [.ref 11] (g_M s ex) (g_rSI z ex)) (hd : L + 1 ≤ d) (K0 : ∀ S : Int32 × Int32 × g_S, z = .inl S → ∀ u3 : Option Value, n_R X (d + 1) 57 5 [some (.ref 11), some (.int S.1), some (.int S.2.1), u3] [] (g_M S.2.2 ex) rr) (Kr : ∀ q, z = .inr (q) → g_rSI q ex = rr) : n_R X (d + 1) 57 19 [some (.ref 11), u1, some (.int x2), u3] [] (g_M s ex) rr := by
  unfold f57_19 at H
  refine g_go 1 md_57 (i1 := 20) rfl ?_
  refine g_getf (n_q md_57 rfl) t_11 rfl ?_
  refine g_go 2 md_57 (i1 := 23) (ls1 := [some (.ref 11), u1, some (.int x2), some (.int (s 11 5))]) rfl ?_
  obtain ⟨s2, hs2, H⟩ := g_bind H
  refine n_call (n_q md_57 rfl) (As := [.ref 11]) (rest := []) rfl rfl (Nat.le_of_ble_eq_true rfl) rfl (g_recv (b := 0) rfl t_11 rfl) (C68 (by omega) hs2) ?_
  refine g_go 1 md_57 (i1 := 25) rfl ?_
  obtain ⟨v3, s4, hv3, H⟩ := g_bdp H
  refine n_callv (n_q md_57 rfl) (As := [.ref 11]) (rest := []) rfl rfl (Nat.le_of_ble_eq_true rfl) rfl (g_recv (b := 0) rfl t_11 rfl) (C58 hL hφ (by omega) hv3) ?_
  refine g_go 2 md_57 (i1 := 28) (ls1 := [some (.ref 11), some (.int v3), some (.int x2), some (.int (s 11 5))]) rfl ?_
  refine g_getd (n_q md_57 rfl) t_11 rfl ?_
  refine g_go 1 md_57 (i1 := 30) rfl ?_
  obtain ⟨h5, H⟩ := g_gd H
  obtain ⟨s7, hs7, H⟩ := g_bind H
  refine n_call (n_q md_57 rfl) (As := [.ref ((s4 11 4).toNatClampNeg), .int (s 11 5)]) (rest := []) rfl rfl (Nat.le_of_ble_eq_true rfl) rfl (g_recv (b := 0) rfl h5 rfl) (C33 h5 (by omega) hs7) ?_
  refine g_go 2 md_57 (i1 := 5) (ls1 := [some (.ref 11), some (.int v3), some (.int (x2 + 1)), some (.int (s 11 5))]) rfl ?_
  cases H
  exact K0 (v3, (x2 + 1, s7)) rfl _
noncomputable def f57_5 (φ : g_S → Option (Int32 × g_S)) (s : g_S) (x1 : Int32) (x2 : Int32) : Option ((Int32 × Int32 × g_S) ⊕ (Int32 × g_S)) := (if x1 = 0 then (if m_isb x1 = true then some (.inr ((x1, s))) else none) else (if x2 < (s 11 3) then (if (s 11 5) = 43 then (f57_19 φ s x2) else (if (s 11 5) = 45 then (f57_19 φ s x2) else (if m_isb x1 = true then some (.inr ((x1, s))) else none))) else (if m_isb x1 = true then some (.inr ((x1, s))) else none)))
theorem P57_5 {d ex : Nat} {rr : m_R} {L : Nat} {φ : g_S → Option (Int32 × g_S)} {s : g_S} {x1 : Int32} {x2 : Int32} {u3 : Option Value}   {z : ((Int32 × Int32 × g_S) ⊕ (Int32 × g_S))} (H : f57_5 φ s x1 x2 = some z) (hL : 15 ≤ L) (hφ : ∀ d1, L ≤ d1 → ∀ {ex : Nat} {s : g_S} {z}, φ s = some z → n_C X d1 59 [.ref 11] (g_M s ex) (g_rSI z ex)) (hd : L + 1 ≤ d) (K0 : ∀ S : Int32 × Int32 × g_S, z = .inl S → ∀ u3 : Option Value, n_R X (d + 1) 57 5 [some (.ref 11), some (.int S.1), some (.int S.2.1), u3] [] (g_M S.2.2 ex) rr) (Kr : ∀ q, z = .inr (q) → g_rSI q ex = rr) : n_R X (d + 1) 57 5 [some (.ref 11), some (.int x1), some (.int x2), u3] [] (g_M s ex) rr := by
  unfold f57_5 at H
  refine g_go 1 md_57 (i1 := 6) rfl ?_
  by_cases h1 : x1 = 0
  · rw [if_pos h1] at H
    refine n_ifT (n_q md_57 rfl) (decide_eq_true h1) ?_
    refine g_go 1 md_57 (i1 := 34) rfl ?_
    obtain ⟨hb2, H⟩ := g_gd H
    cases H
    rw [← Kr _ rfl]
    exact n_iret (n_q md_57 rfl) (Or.inr hb2)
  · rw [if_neg h1] at H
    refine n_ifF (n_q md_57 rfl) (fun e1 => h1 (of_decide_eq_true e1)) ?_
    refine g_go 2 md_57 (i1 := 9) rfl ?_
    refine g_getf (n_q md_57 rfl) t_11 rfl ?_
    by_cases h2 : x2 < (s 11 3)
    · rw [if_pos h2] at H
      refine n_cmpF (n_q md_57 rfl) (fun e1 => absurd (of_decide_eq_true e1) (Int32.not_le.mpr h2)) ?_
      refine g_go 1 md_57 (i1 := 12) rfl ?_
      refine g_getf (n_q md_57 rfl) t_11 rfl ?_
      refine g_go 1 md_57 (i1 := 14) rfl ?_
      by_cases h3 : (s 11 5) = 43
      · rw [if_pos h3] at H
        refine n_cmpT (n_q md_57 rfl) (decide_eq_true h3) ?_
        exact P57_19 H hL hφ hd K0 Kr
      · rw [if_neg h3] at H
        refine n_cmpF (n_q md_57 rfl) (fun e1 => h3 (of_decide_eq_true e1)) ?_
        refine g_go 1 md_57 (i1 := 16) rfl ?_
        refine g_getf (n_q md_57 rfl) t_11 rfl ?_
        refine g_go 1 md_57 (i1 := 18) rfl ?_
        by_cases h4 : (s 11 5) = 45
        · rw [if_pos h4] at H
          refine n_cmpF (n_q md_57 rfl) (fun e1 => of_decide_eq_true e1 h4) ?_
          exact P57_19 H hL hφ hd K0 Kr
        · rw [if_neg h4] at H
          refine n_cmpT (n_q md_57 rfl) (decide_eq_true h4) ?_
          refine g_go 1 md_57 (i1 := 34) rfl ?_
          obtain ⟨hb5, H⟩ := g_gd H
          cases H
          rw [← Kr _ rfl]
          exact n_iret (n_q md_57 rfl) (Or.inr hb5)
    · rw [if_neg h2] at H
      refine n_cmpT (n_q md_57 rfl) (decide_eq_true (Int32.not_lt.mp h2)) ?_
      refine g_go 1 md_57 (i1 := 34) rfl ?_
      obtain ⟨hb3, H⟩ := g_gd H
      cases H
      rw [← Kr _ rfl]
      exact n_iret (n_q md_57 rfl) (Or.inr hb3)
noncomputable def f57_5L (φ : g_S → Option (Int32 × g_S)) (s : g_S) (x1 : Int32) (x2 : Int32) : Option (Int32 × g_S) := g_run (fun S : Int32 × Int32 × g_S => f57_5 φ S.2.2 S.1 S.2.1) (x1, (x2, s))
theorem f57_5L_eq (φ : g_S → Option (Int32 × g_S)) (s : g_S) (x1 : Int32) (x2 : Int32) : f57_5L φ s x1 x2 = g_st (f57_5 φ s x1 x2) (fun S => f57_5L φ S.2.2 S.1 S.2.1) := by
  unfold f57_5L
  exact g_run_eq _ _
theorem P57_5L {d ex : Nat} {L : Nat} {φ : g_S → Option (Int32 × g_S)} {s : g_S} {x1 : Int32} {x2 : Int32} {u3 : Option Value}   {z : (Int32 × g_S)} (H : f57_5L φ s x1 x2 = some z) (hL : 15 ≤ L) (hφ : ∀ d1, L ≤ d1 → ∀ {ex : Nat} {s : g_S} {z}, φ s = some z → n_C X d1 59 [.ref 11] (g_M s ex) (g_rSI z ex)) (hd : L + 1 ≤ d)  : n_R X (d + 1) 57 5 [some (.ref 11), some (.int x1), some (.int x2), u3] [] (g_M s ex) (g_rSI z ex) := by
  unfold f57_5L at H
  refine g_rs (Q := fun S => ∀ u3 : Option Value, n_R X (d + 1) 57 5 [some (.ref 11), some (.int S.1), some (.int S.2.1), u3] [] (g_M S.2.2 ex) (g_rSI z ex)) H ?_ u3
  intro S w hb K0 KK u3
  refine P57_5 hb hL hφ hd ?_ ?_
  · exact fun S1 e1 => K0 S1 e1
  · exact fun q e1 => by rw [KK q e1]
noncomputable def f57 (φ : g_S → Option (Int32 × g_S)) (s : g_S) : Option (Int32 × g_S) := (g_bd (f58 φ s) fun v1 s2 => f57_5L φ s2 v1 0)
theorem C57 {d ex : Nat} {L : Nat} {φ : g_S → Option (Int32 × g_S)} {s : g_S}  {z : Int32 × g_S} (hL : 15 ≤ L) (hφ : ∀ d1, L ≤ d1 → ∀ {ex : Nat} {s : g_S} {z}, φ s = some z → n_C X d1 59 [.ref 11] (g_M s ex) (g_rSI z ex)) (hd : L + 1 < d) (H : f57 φ s = some z) : n_C X d 57 [.ref 11] (g_M s ex) (g_rSI z ex) := by
  obtain ⟨d, rfl⟩ : ∃ d1, d = d1 + 1 := ⟨d - 1, by omega⟩
  replace hd := Nat.le_of_lt_succ hd
  refine ⟨Nat.le_of_ble_eq_true rfl, ?_⟩
  rw [md_57]
  show n_R X (d + 1) 57 0 [some (.ref 11), none, none, none] [] (g_M s ex) _
  unfold f57 at H
  refine g_go 1 md_57 (i1 := 1) rfl ?_
  obtain ⟨v1, s2, hv1, H⟩ := g_bdp H
  refine n_callv (n_q md_57 rfl) (As := [.ref 11]) (rest := []) rfl rfl (Nat.le_of_ble_eq_true rfl) rfl (g_recv (b := 0) rfl t_11 rfl) (C58 hL hφ (by omega) hv1) ?_
  refine g_go 3 md_57 (i1 := 5) (ls1 := [some (.ref 11), some (.int v1), some (.int 0), none]) rfl ?_
  exact P57_5L H hL hφ hd

theorem md_63 : m_md 63 = m_X5_leave := rfl
noncomputable def f63 (s : g_S) (p1 : Int32) : Option (Int32 × g_S) := (if (s 11 5) = p1 then (g_let (g_w s 11 9 ((s 11 9) - 1)) fun s2 => (f68 s2).bind fun s4 => some ((1, s4))) else (g_bd (f67 s 1) fun v2 s3 => if m_isb v2 = true then some ((v2, s3)) else none))
theorem C63 {d ex : Nat} {s : g_S} {p1 : Int32}  {z : Int32 × g_S} (hd : 14 < d) (H : f63 s p1 = some z) : n_C X d 63 [.ref 11, .int p1] (g_M s ex) (g_rSI z ex) := by
  obtain ⟨d, rfl⟩ : ∃ d1, d = d1 + 1 := ⟨d - 1, by omega⟩
  replace hd := Nat.le_of_lt_succ hd
  refine ⟨Nat.le_of_ble_eq_true rfl, ?_⟩
  rw [md_63]
  show n_R X (d + 1) 63 0 [some (.ref 11), some (.int p1)] [] (g_M s ex) _
  unfold f63 at H
  refine g_go 1 md_63 (i1 := 1) rfl ?_
  refine g_getf (n_q md_63 rfl) t_11 rfl ?_
  refine g_go 1 md_63 (i1 := 3) rfl ?_
  by_cases h1 : (s 11 5) = p1
  · rw [if_pos h1] at H
    refine n_cmpT (n_q md_63 rfl) (decide_eq_true h1) ?_
    refine g_go 2 md_63 (i1 := 10) rfl ?_
    refine g_getf (n_q md_63 rfl) t_11 rfl ?_
    refine g_go 2 md_63 (i1 := 13) rfl ?_
    obtain ⟨s2, es2, H⟩ := g_letp H
    refine g_putf (n_q md_63 rfl) t_11 rfl rfl es2 ?_
    refine g_go 1 md_63 (i1 := 15) rfl ?_
    obtain ⟨s4, hs4, H⟩ := g_bind H
    refine n_call (n_q md_63 rfl) (As := [.ref 11]) (rest := []) rfl rfl (Nat.le_of_ble_eq_true rfl) rfl (g_recv (b := 0) rfl t_11 rfl) (C68 (by omega) hs4) ?_
    refine g_go 1 md_63 (i1 := 17) rfl ?_
    cases H
    exact n_iret (n_q md_63 rfl) (Or.inr rfl)
  · rw [if_neg h1] at H
    refine n_cmpF (n_q md_63 rfl) (fun e1 => h1 (of_decide_eq_true e1)) ?_
    refine g_go 2 md_63 (i1 := 6) rfl ?_
    obtain ⟨v2, s3, hv2, H⟩ := g_bdp H
    refine n_callv (n_q md_63 rfl) (As := [.ref 11, .int 1]) (rest := []) rfl rfl (Nat.le_of_ble_eq_true rfl) rfl (g_recv (b := 0) rfl t_11 rfl) (C67 (by omega) hv2) ?_
    obtain ⟨hb4, H⟩ := g_gd H
    cases H
    exact n_iret (n_q md_63 rfl) (Or.inr hb4)

theorem md_61 : m_md 61 = m_X5_readChoice := rfl
noncomputable def f61_28 (φ : g_S → Option (Int32 × g_S)) (s : g_S) (p1 : Int32) (y0 : Int32) : Option (Int32 × g_S) := (if g_lay (s 11 4).toNatClampNeg = o_4 (s 11 4).toNatClampNeg then (f33 s ((s 11 4).toNatClampNeg) p1).bind fun s3 => if m_isb y0 = true then some ((y0, s3)) else none else none)
theorem P61_28 {d ex : Nat} {L : Nat} {φ : g_S → Option (Int32 × g_S)} {s : g_S} {p1 : Int32} {y0 : Int32} {u2 : Option Value}   {z : (Int32 × g_S)} (H : f61_28 φ s p1 y0 = some z) (hL : 15 ≤ L) (hφ : ∀ d1, L ≤ d1 → ∀ {ex : Nat} {s : g_S} {z}, φ s = some z → n_C X d1 59 [.ref 11] (g_M s ex) (g_rSI z ex)) (hd : L + 2 ≤ d)  : n_R X (d + 1) 61 28 [some (.ref 11), some (.int p1), u2] [.int y0] (g_M s ex) (g_rSI z ex) := by
  unfold f61_28 at H
  refine g_go 2 md_61 (i1 := 30) (ls1 := [some (.ref 11), some (.int p1), some (.int y0)]) rfl ?_
  refine g_getd (n_q md_61 rfl) t_11 rfl ?_
  refine g_go 1 md_61 (i1 := 32) rfl ?_
  obtain ⟨h1, H⟩ := g_gd H
  obtain ⟨s3, hs3, H⟩ := g_bind H
  refine n_call (n_q md_61 rfl) (As := [.ref ((s 11 4).toNatClampNeg), .int p1]) (rest := []) rfl rfl (Nat.le_of_ble_eq_true rfl) rfl (g_recv (b := 0) rfl h1 rfl) (C33 h1 (by omega) hs3) ?_
  refine g_go 1 md_61 (i1 := 34) rfl ?_
  obtain ⟨hb4, H⟩ := g_gd H
  cases H
  exact n_iret (n_q md_61 rfl) (Or.inr hb4)
noncomputable def f61_27 (φ : g_S → Option (Int32 × g_S)) (s : g_S) (p1 : Int32) : Option (Int32 × g_S) := (f61_28 φ s p1 0)
theorem P61_27 {d ex : Nat} {L : Nat} {φ : g_S → Option (Int32 × g_S)} {s : g_S} {p1 : Int32} {u2 : Option Value}   {z : (Int32 × g_S)} (H : f61_27 φ s p1 = some z) (hL : 15 ≤ L) (hφ : ∀ d1, L ≤ d1 → ∀ {ex : Nat} {s : g_S} {z}, φ s = some z → n_C X d1 59 [.ref 11] (g_M s ex) (g_rSI z ex)) (hd : L + 2 ≤ d)  : n_R X (d + 1) 61 27 [some (.ref 11), some (.int p1), u2] [] (g_M s ex) (g_rSI z ex) := by
  unfold f61_27 at H
  refine g_go 1 md_61 (i1 := 28) rfl ?_
  exact P61_28 H hL hφ hd
noncomputable def f61 (φ : g_S → Option (Int32 × g_S)) (s : g_S) (p1 : Int32) : Option (Int32 × g_S) := (if (s 11 5) = 40 then (g_bd (f62 s) fun v2 s3 => if v2 = 0 then (f61_27 φ s3 p1) else (g_bd (f57 φ s3) fun v5 s6 => if v5 = 0 then (f61_27 φ s6 p1) else (g_bd (f64 s6 44) fun v8 s9 => if v8 = 0 then (f61_27 φ s9 p1) else (g_bd (f57 φ s9) fun v11 s12 => if v11 = 0 then (f61_27 φ s12 p1) else (g_bd (f63 s12 41) fun v14 s15 => if v14 = 0 then (f61_27 φ s15 p1) else (f61_28 φ s15 p1 1)))))) else (g_bd (f67 s 1) fun v2 s3 => if m_isb v2 = true then some ((v2, s3)) else none))
theorem C61 {d ex : Nat} {L : Nat} {φ : g_S → Option (Int32 × g_S)} {s : g_S} {p1 : Int32}  {z : Int32 × g_S} (hL : 15 ≤ L) (hφ : ∀ d1, L ≤ d1 → ∀ {ex : Nat} {s : g_S} {z}, φ s = some z → n_C X d1 59 [.ref 11] (g_M s ex) (g_rSI z ex)) (hd : L + 2 < d) (H : f61 φ s p1 = some z) : n_C X d 61 [.ref 11, .int p1] (g_M s ex) (g_rSI z ex) := by
  obtain ⟨d, rfl⟩ : ∃ d1, d = d1 + 1 := ⟨d - 1, by omega⟩
  replace hd := Nat.le_of_lt_succ hd
  refine ⟨Nat.le_of_ble_eq_true rfl, ?_⟩
  rw [md_61]
  show n_R X (d + 1) 61 0 [some (.ref 11), some (.int p1), none] [] (g_M s ex) _
  unfold f61 at H
  refine g_go 1 md_61 (i1 := 1) rfl ?_
  refine g_getf (n_q md_61 rfl) t_11 rfl ?_
  refine g_go 1 md_61 (i1 := 3) rfl ?_
  by_cases h1 : (s 11 5) = 40
  · rw [if_pos h1] at H
    refine n_cmpT (n_q md_61 rfl) (decide_eq_true h1) ?_
    refine g_go 1 md_61 (i1 := 9) rfl ?_
    obtain ⟨v2, s3, hv2, H⟩ := g_bdp H
    refine n_callv (n_q md_61 rfl) (As := [.ref 11]) (rest := []) rfl rfl (Nat.le_of_ble_eq_true rfl) rfl (g_recv (b := 0) rfl t_11 rfl) (C62 (by omega) hv2) ?_
    by_cases h4 : v2 = 0
    · rw [if_pos h4] at H
      refine n_ifT (n_q md_61 rfl) (decide_eq_true h4) ?_
      exact P61_27 H hL hφ hd
    · rw [if_neg h4] at H
      refine n_ifF (n_q md_61 rfl) (fun e1 => h4 (of_decide_eq_true e1)) ?_
      refine g_go 1 md_61 (i1 := 12) rfl ?_
      obtain ⟨v5, s6, hv5, H⟩ := g_bdp H
      refine n_callv (n_q md_61 rfl) (As := [.ref 11]) (rest := []) rfl rfl (Nat.le_of_ble_eq_true rfl) rfl (g_recv (b := 0) rfl t_11 rfl) (C57 hL hφ (by omega) hv5) ?_
      by_cases h7 : v5 = 0
      · rw [if_pos h7] at H
        refine n_ifT (n_q md_61 rfl) (decide_eq_true h7) ?_
        exact P61_27 H hL hφ hd
      · rw [if_neg h7] at H
        refine n_ifF (n_q md_61 rfl) (fun e1 => h7 (of_decide_eq_true e1)) ?_
        refine g_go 2 md_61 (i1 := 16) rfl ?_
        obtain ⟨v8, s9, hv8, H⟩ := g_bdp H
        refine n_callv (n_q md_61 rfl) (As := [.ref 11, .int 44]) (rest := []) rfl rfl (Nat.le_of_ble_eq_true rfl) rfl (g_recv (b := 0) rfl t_11 rfl) (C64 (by omega) hv8) ?_
        by_cases h10 : v8 = 0
        · rw [if_pos h10] at H
          refine n_ifT (n_q md_61 rfl) (decide_eq_true h10) ?_
          exact P61_27 H hL hφ hd
        · rw [if_neg h10] at H
          refine n_ifF (n_q md_61 rfl) (fun e1 => h10 (of_decide_eq_true e1)) ?_
          refine g_go 1 md_61 (i1 := 19) rfl ?_
          obtain ⟨v11, s12, hv11, H⟩ := g_bdp H
          refine n_callv (n_q md_61 rfl) (As := [.ref 11]) (rest := []) rfl rfl (Nat.le_of_ble_eq_true rfl) rfl (g_recv (b := 0) rfl t_11 rfl) (C57 hL hφ (by omega) hv11) ?_
          by_cases h13 : v11 = 0
          · rw [if_pos h13] at H
            refine n_ifT (n_q md_61 rfl) (decide_eq_true h13) ?_
            exact P61_27 H hL hφ hd
          · rw [if_neg h13] at H
            refine n_ifF (n_q md_61 rfl) (fun e1 => h13 (of_decide_eq_true e1)) ?_
            refine g_go 2 md_61 (i1 := 23) rfl ?_
            obtain ⟨v14, s15, hv14, H⟩ := g_bdp H
            refine n_callv (n_q md_61 rfl) (As := [.ref 11, .int 41]) (rest := []) rfl rfl (Nat.le_of_ble_eq_true rfl) rfl (g_recv (b := 0) rfl t_11 rfl) (C63 (by omega) hv14) ?_
            by_cases h16 : v14 = 0
            · rw [if_pos h16] at H
              refine n_ifT (n_q md_61 rfl) (decide_eq_true h16) ?_
              exact P61_27 H hL hφ hd
            · rw [if_neg h16] at H
              refine n_ifF (n_q md_61 rfl) (fun e1 => h16 (of_decide_eq_true e1)) ?_
              refine g_go 2 md_61 (i1 := 28) rfl ?_
              exact P61_28 H hL hφ hd
  · rw [if_neg h1] at H
    refine n_cmpF (n_q md_61 rfl) (fun e1 => h1 (of_decide_eq_true e1)) ?_
    refine g_go 2 md_61 (i1 := 6) rfl ?_
    obtain ⟨v2, s3, hv2, H⟩ := g_bdp H
    refine n_callv (n_q md_61 rfl) (As := [.ref 11, .int 1]) (rest := []) rfl rfl (Nat.le_of_ble_eq_true rfl) rfl (g_recv (b := 0) rfl t_11 rfl) (C67 (by omega) hv2) ?_
    obtain ⟨hb4, H⟩ := g_gd H
    cases H
    exact n_iret (n_q md_61 rfl) (Or.inr hb4)

theorem md_60 : m_md 60 = m_X5_readNumber := rfl
noncomputable def f60 (s : g_S) : Option (Int32 × g_S) := (g_bd (f66 s 0 9999) fun v1 s2 => if v1 = 0 then (some ((0, s2))) else (if g_lay (s2 11 4).toNatClampNeg = o_4 (s2 11 4).toNatClampNeg then (f33 s2 ((s2 11 4).toNatClampNeg) (256 + (s2 11 8))).bind fun s6 => (f68 s6).bind fun s8 => some ((1, s8)) else none))
theorem C60 {d ex : Nat} {s : g_S}  {z : Int32 × g_S} (hd : 14 < d) (H : f60 s = some z) : n_C X d 60 [.ref 11] (g_M s ex) (g_rSI z ex) := by
  obtain ⟨d, rfl⟩ : ∃ d1, d = d1 + 1 := ⟨d - 1, by omega⟩
  replace hd := Nat.le_of_lt_succ hd
  refine ⟨Nat.le_of_ble_eq_true rfl, ?_⟩
  rw [md_60]
  show n_R X (d + 1) 60 0 [some (.ref 11)] [] (g_M s ex) _
  unfold f60 at H
  refine g_go 3 md_60 (i1 := 3) rfl ?_
  obtain ⟨v1, s2, hv1, H⟩ := g_bdp H
  refine n_callv (n_q md_60 rfl) (As := [.ref 11, .int 0, .int 9999]) (rest := []) rfl rfl (Nat.le_of_ble_eq_true rfl) rfl (g_recv (b := 0) rfl t_11 rfl) (C66 (by omega) hv1) ?_
  by_cases h3 : v1 = 0
  · rw [if_pos h3] at H
    refine n_ifF (n_q md_60 rfl) (fun e1 => of_decide_eq_true e1 h3) ?_
    refine g_go 1 md_60 (i1 := 6) rfl ?_
    cases H
    exact n_iret (n_q md_60 rfl) (Or.inr rfl)
  · rw [if_neg h3] at H
    refine n_ifT (n_q md_60 rfl) (decide_eq_true h3) ?_
    refine g_go 1 md_60 (i1 := 8) rfl ?_
    refine g_getd (n_q md_60 rfl) t_11 rfl ?_
    refine g_go 2 md_60 (i1 := 11) rfl ?_
    refine g_getf (n_q md_60 rfl) t_11 rfl ?_
    refine g_go 1 md_60 (i1 := 13) rfl ?_
    obtain ⟨h4, H⟩ := g_gd H
    obtain ⟨s6, hs6, H⟩ := g_bind H
    refine n_call (n_q md_60 rfl) (As := [.ref ((s2 11 4).toNatClampNeg), .int (256 + (s2 11 8))]) (rest := []) rfl rfl (Nat.le_of_ble_eq_true rfl) rfl (g_recv (b := 0) rfl h4 rfl) (C33 h4 (by omega) hs6) ?_
    refine g_go 1 md_60 (i1 := 15) rfl ?_
    obtain ⟨s8, hs8, H⟩ := g_bind H
    refine n_call (n_q md_60 rfl) (As := [.ref 11]) (rest := []) rfl rfl (Nat.le_of_ble_eq_true rfl) rfl (g_recv (b := 0) rfl t_11 rfl) (C68 (by omega) hs8) ?_
    refine g_go 1 md_60 (i1 := 17) rfl ?_
    cases H
    exact n_iret (n_q md_60 rfl) (Or.inr rfl)

theorem md_59 : m_md 59 = m_X5_readUnit := rfl
noncomputable def f59_40 (φ : g_S → Option (Int32 × g_S)) (s : g_S) (y1 : Int32) : Option (Int32 × g_S) := (g_bd (f61 φ s y1) fun v1 s2 => if m_isb v1 = true then some ((v1, s2)) else none)
theorem P59_40 {d ex : Nat} {L : Nat} {φ : g_S → Option (Int32 × g_S)} {s : g_S} {y1 : Int32} {u1 u2 : Option Value}   {z : (Int32 × g_S)} (H : f59_40 φ s y1 = some z) (hL : 15 ≤ L) (hφ : ∀ d1, L ≤ d1 → ∀ {ex : Nat} {s : g_S} {z}, φ s = some z → n_C X d1 59 [.ref 11] (g_M s ex) (g_rSI z ex)) (hd : L + 3 ≤ d)  : n_R X (d + 1) 59 40 [some (.ref 11), u1, u2] [.int y1, .ref 11] (g_M s ex) (g_rSI z ex) := by
  unfold f59_40 at H
  obtain ⟨v1, s2, hv1, H⟩ := g_bdp H
  refine n_callv (n_q md_59 rfl) (As := [.ref 11, .int y1]) (rest := []) rfl rfl (Nat.le_of_ble_eq_true rfl) rfl (g_recv (b := 0) rfl t_11 rfl) (C61 hL hφ (by omega) hv1) ?_
  obtain ⟨hb3, H⟩ := g_gd H
  cases H
  exact n_iret (n_q md_59 rfl) (Or.inr hb3)
noncomputable def f59 (φ : g_S → Option (Int32 × g_S)) (s : g_S) : Option (Int32 × g_S) := (if (s 11 5) = 40 then (g_bd (f62 s) fun v2 s3 => if v2 = 0 then (some ((0, s3))) else (g_bd (f57 φ s3) fun v5 s6 => if v5 = 0 then (some ((0, s6))) else (g_bd (f63 s6 41) fun v8 s9 => if v8 = 0 then (some ((0, s9))) else (some ((1, s9)))))) else (if (s 11 5) = 257 then (g_bd (f60 s) fun v3 s4 => if m_isb v3 = true then some ((v3, s4)) else none) else ((f72 s 9).bind fun v3 => if v3 = ((-1)) then ((f72 s 10).bind fun v5 => if v5 = ((-1)) then (g_bd (f67 s 1) fun v7 s8 => if m_isb v7 = true then some ((v7, s8)) else none) else (if g_lay (s 11 4).toNatClampNeg = o_4 (s 11 4).toNatClampNeg then (f33 s ((s 11 4).toNatClampNeg) v5).bind fun s9 => (f68 s9).bind fun s11 => some ((1, s11)) else none)) else ((f68 s).bind fun s6 => if v3 = 0 then (f59_40 φ s6 108) else (f59_40 φ s6 109)))))
theorem C59 {d ex : Nat} {L : Nat} {φ : g_S → Option (Int32 × g_S)} {s : g_S}  {z : Int32 × g_S} (hL : 15 ≤ L) (hφ : ∀ d1, L ≤ d1 → ∀ {ex : Nat} {s : g_S} {z}, φ s = some z → n_C X d1 59 [.ref 11] (g_M s ex) (g_rSI z ex)) (hd : L + 3 < d) (H : f59 φ s = some z) : n_C X d 59 [.ref 11] (g_M s ex) (g_rSI z ex) := by
  obtain ⟨d, rfl⟩ : ∃ d1, d = d1 + 1 := ⟨d - 1, by omega⟩
  replace hd := Nat.le_of_lt_succ hd
  refine ⟨Nat.le_of_ble_eq_true rfl, ?_⟩
  rw [md_59]
  show n_R X (d + 1) 59 0 [some (.ref 11), none, none] [] (g_M s ex) _
  unfold f59 at H
  refine g_go 1 md_59 (i1 := 1) rfl ?_
  refine g_getf (n_q md_59 rfl) t_11 rfl ?_
  refine g_go 1 md_59 (i1 := 3) rfl ?_
  by_cases h1 : (s 11 5) = 40
  · rw [if_pos h1] at H
    refine n_cmpF (n_q md_59 rfl) (fun e1 => of_decide_eq_true e1 h1) ?_
    refine g_go 1 md_59 (i1 := 5) rfl ?_
    obtain ⟨v2, s3, hv2, H⟩ := g_bdp H
    refine n_callv (n_q md_59 rfl) (As := [.ref 11]) (rest := []) rfl rfl (Nat.le_of_ble_eq_true rfl) rfl (g_recv (b := 0) rfl t_11 rfl) (C62 (by omega) hv2) ?_
    by_cases h4 : v2 = 0
    · rw [if_pos h4] at H
      refine n_ifT (n_q md_59 rfl) (decide_eq_true h4) ?_
      refine g_go 1 md_59 (i1 := 17) rfl ?_
      cases H
      exact n_iret (n_q md_59 rfl) (Or.inr rfl)
    · rw [if_neg h4] at H
      refine n_ifF (n_q md_59 rfl) (fun e1 => h4 (of_decide_eq_true e1)) ?_
      refine g_go 1 md_59 (i1 := 8) rfl ?_
      obtain ⟨v5, s6, hv5, H⟩ := g_bdp H
      refine n_callv (n_q md_59 rfl) (As := [.ref 11]) (rest := []) rfl rfl (Nat.le_of_ble_eq_true rfl) rfl (g_recv (b := 0) rfl t_11 rfl) (C57 hL hφ (by omega) hv5) ?_
      by_cases h7 : v5 = 0
      · rw [if_pos h7] at H
        refine n_ifT (n_q md_59 rfl) (decide_eq_true h7) ?_
        refine g_go 1 md_59 (i1 := 17) rfl ?_
        cases H
        exact n_iret (n_q md_59 rfl) (Or.inr rfl)
      · rw [if_neg h7] at H
        refine n_ifF (n_q md_59 rfl) (fun e1 => h7 (of_decide_eq_true e1)) ?_
        refine g_go 2 md_59 (i1 := 12) rfl ?_
        obtain ⟨v8, s9, hv8, H⟩ := g_bdp H
        refine n_callv (n_q md_59 rfl) (As := [.ref 11, .int 41]) (rest := []) rfl rfl (Nat.le_of_ble_eq_true rfl) rfl (g_recv (b := 0) rfl t_11 rfl) (C63 (by omega) hv8) ?_
        by_cases h10 : v8 = 0
        · rw [if_pos h10] at H
          refine n_ifT (n_q md_59 rfl) (decide_eq_true h10) ?_
          refine g_go 1 md_59 (i1 := 17) rfl ?_
          cases H
          exact n_iret (n_q md_59 rfl) (Or.inr rfl)
        · rw [if_neg h10] at H
          refine n_ifF (n_q md_59 rfl) (fun e1 => h10 (of_decide_eq_true e1)) ?_
          refine g_go 2 md_59 (i1 := 17) rfl ?_
          cases H
          exact n_iret (n_q md_59 rfl) (Or.inr rfl)
  · rw [if_neg h1] at H
    refine n_cmpT (n_q md_59 rfl) (decide_eq_true h1) ?_
    refine g_go 1 md_59 (i1 := 19) rfl ?_
    refine g_getf (n_q md_59 rfl) t_11 rfl ?_
    refine g_go 1 md_59 (i1 := 21) rfl ?_
    by_cases h2 : (s 11 5) = 257
    · rw [if_pos h2] at H
      refine n_cmpF (n_q md_59 rfl) (fun e1 => of_decide_eq_true e1 h2) ?_
      refine g_go 1 md_59 (i1 := 23) rfl ?_
      obtain ⟨v3, s4, hv3, H⟩ := g_bdp H
      refine n_callv (n_q md_59 rfl) (As := [.ref 11]) (rest := []) rfl rfl (Nat.le_of_ble_eq_true rfl) rfl (g_recv (b := 0) rfl t_11 rfl) (C60 (by omega) hv3) ?_
      obtain ⟨hb5, H⟩ := g_gd H
      cases H
      exact n_iret (n_q md_59 rfl) (Or.inr hb5)
    · rw [if_neg h2] at H
      refine n_cmpT (n_q md_59 rfl) (decide_eq_true h2) ?_
      refine g_go 2 md_59 (i1 := 27) rfl ?_
      obtain ⟨v3, hv3, H⟩ := g_bind H
      refine n_callv (n_q md_59 rfl) (As := [.ref 11, .ref (m_T0 + 9)]) (rest := []) rfl rfl (Nat.le_of_ble_eq_true rfl) rfl (g_recv (b := 0) rfl t_11 rfl) (C72 (by decide : 9 < m_text.length) (by omega) hv3) ?_
      refine g_go 3 md_59 (i1 := 31) (ls1 := [some (.ref 11), some (.int v3), none]) rfl ?_
      by_cases h4 : v3 = ((-1))
      · rw [if_pos h4] at H
        refine n_cmpT (n_q md_59 rfl) (decide_eq_true h4) ?_
        refine g_go 2 md_59 (i1 := 44) rfl ?_
        obtain ⟨v5, hv5, H⟩ := g_bind H
        refine n_callv (n_q md_59 rfl) (As := [.ref 11, .ref (m_T0 + 10)]) (rest := []) rfl rfl (Nat.le_of_ble_eq_true rfl) rfl (g_recv (b := 0) rfl t_11 rfl) (C72 (by decide : 10 < m_text.length) (by omega) hv5) ?_
        refine g_go 3 md_59 (i1 := 48) (ls1 := [some (.ref 11), some (.int v3), some (.int v5)]) rfl ?_
        by_cases h6 : v5 = ((-1))
        · rw [if_pos h6] at H
          refine n_cmpF (n_q md_59 rfl) (fun e1 => of_decide_eq_true e1 h6) ?_
          refine g_go 2 md_59 (i1 := 51) rfl ?_
          obtain ⟨v7, s8, hv7, H⟩ := g_bdp H
          refine n_callv (n_q md_59 rfl) (As := [.ref 11, .int 1]) (rest := []) rfl rfl (Nat.le_of_ble_eq_true rfl) rfl (g_recv (b := 0) rfl t_11 rfl) (C67 (by omega) hv7) ?_
          obtain ⟨hb9, H⟩ := g_gd H
          cases H
          exact n_iret (n_q md_59 rfl) (Or.inr hb9)
        · rw [if_neg h6] at H
          refine n_cmpT (n_q md_59 rfl) (decide_eq_true h6) ?_
          refine g_go 1 md_59 (i1 := 54) rfl ?_
          refine g_getd (n_q md_59 rfl) t_11 rfl ?_
          refine g_go 1 md_59 (i1 := 56) rfl ?_
          obtain ⟨h7, H⟩ := g_gd H
          obtain ⟨s9, hs9, H⟩ := g_bind H
          refine n_call (n_q md_59 rfl) (As := [.ref ((s 11 4).toNatClampNeg), .int v5]) (rest := []) rfl rfl (Nat.le_of_ble_eq_true rfl) rfl (g_recv (b := 0) rfl h7 rfl) (C33 h7 (by omega) hs9) ?_
          refine g_go 1 md_59 (i1 := 58) rfl ?_
          obtain ⟨s11, hs11, H⟩ := g_bind H
          refine n_call (n_q md_59 rfl) (As := [.ref 11]) (rest := []) rfl rfl (Nat.le_of_ble_eq_true rfl) rfl (g_recv (b := 0) rfl t_11 rfl) (C68 (by omega) hs11) ?_
          refine g_go 1 md_59 (i1 := 60) rfl ?_
          cases H
          exact n_iret (n_q md_59 rfl) (Or.inr rfl)
      · rw [if_neg h4] at H
        refine n_cmpF (n_q md_59 rfl) (fun e1 => h4 (of_decide_eq_true e1)) ?_
        refine g_go 1 md_59 (i1 := 33) rfl ?_
        obtain ⟨s6, hs6, H⟩ := g_bind H
        refine n_call (n_q md_59 rfl) (As := [.ref 11]) (rest := []) rfl rfl (Nat.le_of_ble_eq_true rfl) rfl (g_recv (b := 0) rfl t_11 rfl) (C68 (by omega) hs6) ?_
        refine g_go 2 md_59 (i1 := 36) rfl ?_
        by_cases h7 : v3 = 0
        · rw [if_pos h7] at H
          refine n_ifF (n_q md_59 rfl) (fun e1 => of_decide_eq_true e1 h7) ?_
          refine g_go 2 md_59 (i1 := 40) rfl ?_
          exact P59_40 H hL hφ hd
        · rw [if_neg h7] at H
          refine n_ifT (n_q md_59 rfl) (decide_eq_true h7) ?_
          refine g_go 1 md_59 (i1 := 40) rfl ?_
          exact P59_40 H hL hφ hd

/-- the knot: m_X5_readUnit by fuel -/
noncomputable def g59 : Nat → g_S → Option (Int32 × g_S)
  | 0 => fun _ => none
  | n + 1 => fun s => f59 (g59 n) s
theorem G59 : ∀ n d1 : Nat, 15 + 4 * n ≤ d1 → ∀ {ex : Nat} {s : g_S} {z}, g59 n s = some z → n_C X d1 59 [.ref 11] (g_M s ex) (g_rSI z ex)
  | 0, _, _, _, _, _, h => by cases h
  | n + 1, d1, hd, ex, s, z, h => C59 (L := 15 + 4 * n) (φ := g59 n) (by omega) (fun d2 h2 => G59 n d2 h2) (by omega) h
noncomputable def f57c (s : g_S) : Option (Int32 × g_S) := f57 (g59 9) s
theorem C57c {d ex : Nat} {s : g_S} {z : Int32 × g_S} (hd : 52 < d) (H : f57c s = some z) : n_C X d 57 [.ref 11] (g_M s ex) (g_rSI z ex) := C57 (L := 51) (φ := g59 9) (by omega) (fun d2 h2 => G59 9 d2 (by omega)) (by omega) H
noncomputable def f58c (s : g_S) : Option (Int32 × g_S) := f58 (g59 9) s
theorem C58c {d ex : Nat} {s : g_S} {z : Int32 × g_S} (hd : 51 < d) (H : f58c s = some z) : n_C X d 58 [.ref 11] (g_M s ex) (g_rSI z ex) := C58 (L := 51) (φ := g59 9) (by omega) (fun d2 h2 => G59 9 d2 (by omega)) (by omega) H
noncomputable def f59c (s : g_S) : Option (Int32 × g_S) := f59 (g59 9) s
theorem C59c {d ex : Nat} {s : g_S} {z : Int32 × g_S} (hd : 54 < d) (H : f59c s = some z) : n_C X d 59 [.ref 11] (g_M s ex) (g_rSI z ex) := C59 (L := 51) (φ := g59 9) (by omega) (fun d2 h2 => G59 9 d2 (by omega)) (by omega) H
noncomputable def f61c (s : g_S) (p1 : Int32) : Option (Int32 × g_S) := f61 (g59 9) s p1
theorem C61c {d ex : Nat} {s : g_S} {p1 : Int32} {z : Int32 × g_S} (hd : 53 < d) (H : f61c s p1 = some z) : n_C X d 61 [.ref 11, .int p1] (g_M s ex) (g_rSI z ex) := C61 (L := 51) (φ := g59 9) (by omega) (fun d2 h2 => G59 9 d2 (by omega)) (by omega) H

end K2
