/-! METHODS, written by wip/whole/gen_51.py (11). -/
section K11
variable {X : m_X}
theorem md_216 : m_md 216 = m_X8_beside := rfl
noncomputable def f216_26 (s : g_S) (p1 : Int32) (p2 : Int32) (y1 : Int32) : Option (Int32 × g_S) := (g_bd (f134 s y1 2) fun v1 s2 => if v1 = 0 then ((f182 s2 p1).bind fun s5 => if m_in p2 13 = true then some ((s5 242 p2.toNatClampNeg, s5)) else none) else (some ((0, s2))))
theorem P216_26 {d ex : Nat} {s : g_S} {p1 : Int32} {p2 : Int32} {y1 : Int32}   {z : (Int32 × g_S)} (H : f216_26 s p1 p2 y1 = some z) (hd : 81 ≤ d)  : n_R X (d + 1) 216 26 [some (.ref 199), some (.int p1), some (.int p2)] [.int y1, .ref 199] (g_M s ex) (g_rSI z ex) := by
  unfold f216_26 at H
  refine g_go 1 md_216 (i1 := 27) rfl ?_
  obtain ⟨v1, s2, hv1, H⟩ := g_bdp H
  refine n_callv (n_q md_216 rfl) (As := [.ref 199, .int y1, .int 2]) (rest := []) rfl rfl (Nat.le_of_ble_eq_true rfl) rfl (g_recv (b := 0) rfl t_199 rfl) (C134 (by omega) hv1) ?_
  by_cases h3 : v1 = 0
  · rw [if_pos h3] at H
    refine n_ifT (n_q md_216 rfl) (decide_eq_true h3) ?_
    refine g_go 2 md_216 (i1 := 33) rfl ?_
    obtain ⟨s5, hs5, H⟩ := g_bind H
    refine n_call (n_q md_216 rfl) (As := [.ref 199, .int p1]) (rest := []) rfl rfl (Nat.le_of_ble_eq_true rfl) rfl (g_recv (b := 0) rfl t_199 rfl) (C182 (by omega) hs5) ?_
    refine g_go 1 md_216 (i1 := 35) rfl ?_
    refine g_getr 242 (n_q md_216 rfl) t_199 rfl ?_
    refine g_go 1 md_216 (i1 := 37) rfl ?_
    obtain ⟨h6, H⟩ := g_gd H
    refine g_iald (n_q md_216 rfl) t_242 h6 ?_
    cases H
    exact n_iret (n_q md_216 rfl) (Or.inl rfl)
  · rw [if_neg h3] at H
    refine n_ifF (n_q md_216 rfl) (fun e1 => h3 (of_decide_eq_true e1)) ?_
    refine g_go 1 md_216 (i1 := 30) rfl ?_
    cases H
    exact n_iret (n_q md_216 rfl) (Or.inl rfl)
noncomputable def f216_11 (s : g_S) (p1 : Int32) (p2 : Int32) (y1 : Int32) : Option (Int32 × g_S) := (g_bd (f134 s y1 1) fun v1 s2 => if v1 = 0 then ((f135 s2 p1 0 ((s2 199 12) - 1)).bind fun v4 => if v4 = 0 then (f216_26 s2 p1 p2 1) else (f216_26 s2 p1 p2 0)) else (some ((0, s2))))
theorem P216_11 {d ex : Nat} {s : g_S} {p1 : Int32} {p2 : Int32} {y1 : Int32}   {z : (Int32 × g_S)} (H : f216_11 s p1 p2 y1 = some z) (hd : 81 ≤ d)  : n_R X (d + 1) 216 11 [some (.ref 199), some (.int p1), some (.int p2)] [.int y1, .ref 199] (g_M s ex) (g_rSI z ex) := by
  unfold f216_11 at H
  refine g_go 1 md_216 (i1 := 12) rfl ?_
  obtain ⟨v1, s2, hv1, H⟩ := g_bdp H
  refine n_callv (n_q md_216 rfl) (As := [.ref 199, .int y1, .int 1]) (rest := []) rfl rfl (Nat.le_of_ble_eq_true rfl) rfl (g_recv (b := 0) rfl t_199 rfl) (C134 (by omega) hv1) ?_
  by_cases h3 : v1 = 0
  · rw [if_pos h3] at H
    refine n_ifF (n_q md_216 rfl) (fun e1 => of_decide_eq_true e1 h3) ?_
    refine g_go 4 md_216 (i1 := 18) rfl ?_
    refine g_getf (n_q md_216 rfl) t_199 rfl ?_
    refine g_go 2 md_216 (i1 := 21) rfl ?_
    obtain ⟨v4, hv4, H⟩ := g_bind H
    refine n_callv (n_q md_216 rfl) (As := [.int p1, .int 0, .int ((s2 199 12) - 1)]) (rest := [.ref 199]) rfl rfl (Nat.le_of_ble_eq_true rfl) rfl rfl (C135 (by omega) hv4) ?_
    by_cases h5 : v4 = 0
    · rw [if_pos h5] at H
      refine n_ifF (n_q md_216 rfl) (fun e1 => of_decide_eq_true e1 h5) ?_
      refine g_go 2 md_216 (i1 := 26) rfl ?_
      exact P216_26 H hd
    · rw [if_neg h5] at H
      refine n_ifT (n_q md_216 rfl) (decide_eq_true h5) ?_
      refine g_go 1 md_216 (i1 := 26) rfl ?_
      exact P216_26 H hd
  · rw [if_neg h3] at H
    refine n_ifT (n_q md_216 rfl) (decide_eq_true h3) ?_
    refine g_go 1 md_216 (i1 := 30) rfl ?_
    cases H
    exact n_iret (n_q md_216 rfl) (Or.inl rfl)
noncomputable def f216 (s : g_S) (p1 : Int32) (p2 : Int32) : Option (Int32 × g_S) := (g_let (g_w s 199 0 0) fun s1 => (f173 s1 p2).bind fun v2 => if v2 = 0 then (f216_11 s1 p1 p2 1) else (f216_11 s1 p1 p2 0))
theorem C216 {d ex : Nat} {s : g_S} {p1 : Int32} {p2 : Int32}  {z : Int32 × g_S} (hd : 81 < d) (H : f216 s p1 p2 = some z) : n_C X d 216 [.ref 199, .int p1, .int p2] (g_M s ex) (g_rSI z ex) := by
  obtain ⟨d, rfl⟩ : ∃ d1, d = d1 + 1 := ⟨d - 1, by omega⟩
  replace hd := Nat.le_of_lt_succ hd
  refine ⟨Nat.le_of_ble_eq_true rfl, ?_⟩
  rw [md_216]
  show n_R X (d + 1) 216 0 [some (.ref 199), some (.int p1), some (.int p2)] [] (g_M s ex) _
  unfold f216 at H
  refine g_go 2 md_216 (i1 := 2) rfl ?_
  obtain ⟨s1, es1, H⟩ := g_letp H
  refine g_putf (n_q md_216 rfl) t_199 rfl rfl es1 ?_
  refine g_go 3 md_216 (i1 := 6) rfl ?_
  obtain ⟨v2, hv2, H⟩ := g_bind H
  refine n_callv (n_q md_216 rfl) (As := [.ref 199, .int p2]) (rest := [.ref 199]) rfl rfl (Nat.le_of_ble_eq_true rfl) rfl (g_recv (b := 0) rfl t_199 rfl) (C173 (by omega) hv2) ?_
  by_cases h3 : v2 = 0
  · rw [if_pos h3] at H
    refine n_ifF (n_q md_216 rfl) (fun e1 => of_decide_eq_true e1 h3) ?_
    refine g_go 2 md_216 (i1 := 11) rfl ?_
    exact P216_11 H hd
  · rw [if_neg h3] at H
    refine n_ifT (n_q md_216 rfl) (decide_eq_true h3) ?_
    refine g_go 1 md_216 (i1 := 11) rfl ?_
    exact P216_11 H hd

theorem md_217 : m_md 217 = m_X8_moves := rfl
noncomputable def f217 (s : g_S) (p1 : Int32) (p2 : Int32) (p3 : Int32) (p4 : Int32) : Option (Int32 × g_S) := (if p4 = 0 then (if m_in p1 3 = true then if m_in p2 320 = true then g_let (g_w s (561 + p1.toNatClampNeg) p2.toNatClampNeg p3) fun s4 => some ((s4 (561 + p1.toNatClampNeg) p2.toNatClampNeg, s4)) else none else none) else (if m_in p1 3 = true then if m_in p2 320 = true then some ((s (561 + p1.toNatClampNeg) p2.toNatClampNeg, s)) else none else none))
theorem C217 {d ex : Nat} {s : g_S} {p1 : Int32} {p2 : Int32} {p3 : Int32} {p4 : Int32}  {z : Int32 × g_S} (hd : 12 < d) (H : f217 s p1 p2 p3 p4 = some z) : n_C X d 217 [.ref 199, .int p1, .int p2, .int p3, .int p4] (g_M s ex) (g_rSI z ex) := by
  obtain ⟨d, rfl⟩ : ∃ d1, d = d1 + 1 := ⟨d - 1, by omega⟩
  replace hd := Nat.le_of_lt_succ hd
  refine ⟨Nat.le_of_ble_eq_true rfl, ?_⟩
  rw [md_217]
  show n_R X (d + 1) 217 0 [some (.ref 199), some (.int p1), some (.int p2), some (.int p3), some (.int p4)] [] (g_M s ex) _
  unfold f217 at H
  refine g_go 1 md_217 (i1 := 1) rfl ?_
  by_cases h1 : p4 = 0
  · rw [if_pos h1] at H
    refine n_ifF (n_q md_217 rfl) (fun e1 => of_decide_eq_true e1 h1) ?_
    refine g_go 1 md_217 (i1 := 3) rfl ?_
    refine g_getr 560 (n_q md_217 rfl) t_199 rfl ?_
    refine g_go 1 md_217 (i1 := 5) rfl ?_
    obtain ⟨h2, H⟩ := g_gd H
    refine g_aald (n_q md_217 rfl) ta_560 (by decide) h2 (g_range (g_inlt h2)) ?_
    refine g_go 2 md_217 (i1 := 8) rfl ?_
    obtain ⟨h3, H⟩ := g_gd H
    obtain ⟨s4, es4, H⟩ := g_letp H
    refine g_iast (n_q md_217 rfl) (te_560 (g_inlt h2)) h3 es4 ?_
    refine g_go 1 md_217 (i1 := 10) rfl ?_
    refine g_getr 560 (n_q md_217 rfl) t_199 rfl ?_
    refine g_go 1 md_217 (i1 := 12) rfl ?_
    refine g_aald (n_q md_217 rfl) ta_560 (by decide) h2 (g_range (g_inlt h2)) ?_
    refine g_go 1 md_217 (i1 := 14) rfl ?_
    refine g_iald (n_q md_217 rfl) (te_560 (g_inlt h2)) h3 ?_
    cases H
    exact n_iret (n_q md_217 rfl) (Or.inl rfl)
  · rw [if_neg h1] at H
    refine n_ifT (n_q md_217 rfl) (decide_eq_true h1) ?_
    refine g_go 1 md_217 (i1 := 10) rfl ?_
    refine g_getr 560 (n_q md_217 rfl) t_199 rfl ?_
    refine g_go 1 md_217 (i1 := 12) rfl ?_
    obtain ⟨h2, H⟩ := g_gd H
    refine g_aald (n_q md_217 rfl) ta_560 (by decide) h2 (g_range (g_inlt h2)) ?_
    refine g_go 1 md_217 (i1 := 14) rfl ?_
    obtain ⟨h3, H⟩ := g_gd H
    refine g_iald (n_q md_217 rfl) (te_560 (g_inlt h2)) h3 ?_
    cases H
    exact n_iret (n_q md_217 rfl) (Or.inl rfl)

theorem md_218 : m_md 218 = m_X8_movesAll := rfl
noncomputable def f218_226 (s : g_S) (p1 : Int32) (p2 : Int32) (x3 : Int32) (x4 : Int32) : Option ((Int32 × g_S) ⊕ ((Int32 × g_S) ⊕ (g_S))) := (if x4 < 2 then (if m_in x3 20 = true then if m_in x4 2 = true then g_bd (f217 s p1 ((200 + (2 * x3)) + x4) (s (540 + x3.toNatClampNeg) x4.toNatClampNeg) p2) fun v4 s5 => g_let (g_w s5 (540 + x3.toNatClampNeg) x4.toNatClampNeg v4) fun s6 => some (.inl (x4 + 1, s6)) else none else none) else (some (.inr (.inl (x3 + 1, s)))))
theorem P218_226 {d ex : Nat} {rr : m_R} {s : g_S} {p1 : Int32} {p2 : Int32} {x3 : Int32} {x4 : Int32}   {z : ((Int32 × g_S) ⊕ ((Int32 × g_S) ⊕ (g_S)))} (H : f218_226 s p1 p2 x3 x4 = some z) (hd : 13 ≤ d) (K0 : ∀ S : Int32 × g_S, z = .inl S → n_R X (d + 1) 218 226 [some (.ref 199), some (.int p1), some (.int p2), some (.int x3), some (.int S.1)] [] (g_M S.2 ex) rr) (K1 : ∀ S : Int32 × g_S, z = .inr (.inl S) → ∀ u4 : Option Value, n_R X (d + 1) 218 221 [some (.ref 199), some (.int p1), some (.int p2), some (.int S.1), u4] [] (g_M S.2 ex) rr) (Kr : ∀ q, z = .inr (.inr (q)) → g_rSV q ex = rr) : n_R X (d + 1) 218 226 [some (.ref 199), some (.int p1), some (.int p2), some (.int x3), some (.int x4)] [] (g_M s ex) rr := by
  unfold f218_226 at H
  refine g_go 2 md_218 (i1 := 228) rfl ?_
  by_cases h1 : x4 < 2
  · rw [if_pos h1] at H
    refine n_cmpF (n_q md_218 rfl) (fun e1 => absurd (of_decide_eq_true e1) (Int32.not_le.mpr h1)) ?_
    refine g_go 1 md_218 (i1 := 230) rfl ?_
    refine g_getr 539 (n_q md_218 rfl) t_199 rfl ?_
    refine g_go 1 md_218 (i1 := 232) rfl ?_
    obtain ⟨h2, H⟩ := g_gd H
    refine g_aald (n_q md_218 rfl) ta_539 (by decide) h2 (g_range (g_inlt h2)) ?_
    refine g_go 11 md_218 (i1 := 244) rfl ?_
    refine g_getr 539 (n_q md_218 rfl) t_199 rfl ?_
    refine g_go 1 md_218 (i1 := 246) rfl ?_
    refine g_aald (n_q md_218 rfl) ta_539 (by decide) h2 (g_range (g_inlt h2)) ?_
    refine g_go 1 md_218 (i1 := 248) rfl ?_
    obtain ⟨h3, H⟩ := g_gd H
    refine g_iald (n_q md_218 rfl) (te_539 (g_inlt h2)) h3 ?_
    refine g_go 1 md_218 (i1 := 250) rfl ?_
    obtain ⟨v4, s5, hv4, H⟩ := g_bdp H
    refine n_callv (n_q md_218 rfl) (As := [.ref 199, .int p1, .int ((200 + (2 * x3)) + x4), .int (s (540 + x3.toNatClampNeg) x4.toNatClampNeg), .int p2]) (rest := [.int x4, .ref (540 + x3.toNatClampNeg)]) rfl rfl (Nat.le_of_ble_eq_true rfl) rfl (g_recv (b := 0) rfl t_199 rfl) (C217 (by omega) hv4) ?_
    obtain ⟨s6, es6, H⟩ := g_letp H
    refine g_iast (n_q md_218 rfl) (te_539 (g_inlt h2)) h3 es6 ?_
    refine g_go 2 md_218 (i1 := 226) (ls1 := [some (.ref 199), some (.int p1), some (.int p2), some (.int x3), some (.int (x4 + 1))]) rfl ?_
    cases H
    exact K0 (x4 + 1, s6) rfl
  · rw [if_neg h1] at H
    refine n_cmpT (n_q md_218 rfl) (decide_eq_true (Int32.not_lt.mp h1)) ?_
    refine g_go 2 md_218 (i1 := 221) (ls1 := [some (.ref 199), some (.int p1), some (.int p2), some (.int (x3 + 1)), some (.int x4)]) rfl ?_
    cases H
    exact K1 (x3 + 1, s) rfl _
noncomputable def f218_226L (s : g_S) (p1 : Int32) (p2 : Int32) (x3 : Int32) (x4 : Int32) : Option ((Int32 × g_S) ⊕ (g_S)) := g_run (fun S : Int32 × g_S => f218_226 S.2 p1 p2 x3 S.1) (x4, s)
theorem f218_226L_eq (s : g_S) (p1 : Int32) (p2 : Int32) (x3 : Int32) (x4 : Int32) : f218_226L s p1 p2 x3 x4 = g_st (f218_226 s p1 p2 x3 x4) (fun S => f218_226L S.2 p1 p2 x3 S.1) := by
  unfold f218_226L
  exact g_run_eq _ _
theorem P218_226L {d ex : Nat} {rr : m_R} {s : g_S} {p1 : Int32} {p2 : Int32} {x3 : Int32} {x4 : Int32}   {z : ((Int32 × g_S) ⊕ (g_S))} (H : f218_226L s p1 p2 x3 x4 = some z) (hd : 13 ≤ d) (K0 : ∀ S : Int32 × g_S, z = .inl S → ∀ u4 : Option Value, n_R X (d + 1) 218 221 [some (.ref 199), some (.int p1), some (.int p2), some (.int S.1), u4] [] (g_M S.2 ex) rr) (Kr : ∀ q, z = .inr (q) → g_rSV q ex = rr) : n_R X (d + 1) 218 226 [some (.ref 199), some (.int p1), some (.int p2), some (.int x3), some (.int x4)] [] (g_M s ex) rr := by
  unfold f218_226L at H
  have KO0 := K0
  have KOr := Kr
  refine g_rs (Q := fun S => n_R X (d + 1) 218 226 [some (.ref 199), some (.int p1), some (.int p2), some (.int x3), some (.int S.1)] [] (g_M S.2 ex) rr) H ?_
  intro S w hb K0 KK
  refine P218_226 hb hd ?_ ?_ ?_
  · exact fun S1 e1 => K0 S1 e1
  · exact fun S1 e1 => KO0 S1 (KK _ e1).symm
  · exact fun q e1 => KOr q (KK _ e1).symm
noncomputable def f218_221 (s : g_S) (p1 : Int32) (p2 : Int32) (x3 : Int32) : Option ((Int32 × g_S) ⊕ (g_S)) := (if x3 < 20 then (f218_226L s p1 p2 x3 0) else (some (.inr (s))))
theorem P218_221 {d ex : Nat} {rr : m_R} {s : g_S} {p1 : Int32} {p2 : Int32} {x3 : Int32} {u4 : Option Value}   {z : ((Int32 × g_S) ⊕ (g_S))} (H : f218_221 s p1 p2 x3 = some z) (hd : 13 ≤ d) (K0 : ∀ S : Int32 × g_S, z = .inl S → ∀ u4 : Option Value, n_R X (d + 1) 218 221 [some (.ref 199), some (.int p1), some (.int p2), some (.int S.1), u4] [] (g_M S.2 ex) rr) (Kr : ∀ q, z = .inr (q) → g_rSV q ex = rr) : n_R X (d + 1) 218 221 [some (.ref 199), some (.int p1), some (.int p2), some (.int x3), u4] [] (g_M s ex) rr := by
  unfold f218_221 at H
  refine g_go 2 md_218 (i1 := 223) rfl ?_
  by_cases h1 : x3 < 20
  · rw [if_pos h1] at H
    refine n_cmpF (n_q md_218 rfl) (fun e1 => absurd (of_decide_eq_true e1) (Int32.not_le.mpr h1)) ?_
    refine g_go 2 md_218 (i1 := 226) (ls1 := [some (.ref 199), some (.int p1), some (.int p2), some (.int x3), some (.int 0)]) rfl ?_
    exact P218_226L H hd K0 Kr
  · rw [if_neg h1] at H
    refine n_cmpT (n_q md_218 rfl) (decide_eq_true (Int32.not_lt.mp h1)) ?_
    cases H
    rw [← Kr _ rfl]
    exact n_end (n_q md_218 rfl) (fun _ => rfl)
noncomputable def f218_221L (s : g_S) (p1 : Int32) (p2 : Int32) (x3 : Int32) : Option (g_S) := g_run (fun S : Int32 × g_S => f218_221 S.2 p1 p2 S.1) (x3, s)
theorem f218_221L_eq (s : g_S) (p1 : Int32) (p2 : Int32) (x3 : Int32) : f218_221L s p1 p2 x3 = g_st (f218_221 s p1 p2 x3) (fun S => f218_221L S.2 p1 p2 S.1) := by
  unfold f218_221L
  exact g_run_eq _ _
theorem P218_221L {d ex : Nat} {s : g_S} {p1 : Int32} {p2 : Int32} {x3 : Int32} {u4 : Option Value}   {z : (g_S)} (H : f218_221L s p1 p2 x3 = some z) (hd : 13 ≤ d)  : n_R X (d + 1) 218 221 [some (.ref 199), some (.int p1), some (.int p2), some (.int x3), u4] [] (g_M s ex) (g_rSV z ex) := by
  unfold f218_221L at H
  refine g_rs (Q := fun S => ∀ u4 : Option Value, n_R X (d + 1) 218 221 [some (.ref 199), some (.int p1), some (.int p2), some (.int S.1), u4] [] (g_M S.2 ex) (g_rSV z ex)) H ?_ u4
  intro S w hb K0 KK u4
  refine P218_221 hb hd ?_ ?_
  · exact fun S1 e1 => K0 S1 e1
  · exact fun q e1 => by rw [KK q e1]
noncomputable def f218_189 (s : g_S) (p1 : Int32) (p2 : Int32) (x3 : Int32) (x4 : Int32) : Option ((Int32 × g_S) ⊕ ((Int32 × g_S) ⊕ (g_S))) := (if x4 < 3 then (if m_in x3 8 = true then if m_in x4 3 = true then g_bd (f217 s p1 ((170 + (3 * x3)) + x4) (s (260 + x3.toNatClampNeg) x4.toNatClampNeg) p2) fun v4 s5 => g_let (g_w s5 (260 + x3.toNatClampNeg) x4.toNatClampNeg v4) fun s6 => some (.inl (x4 + 1, s6)) else none else none) else (some (.inr (.inl (x3 + 1, s)))))
theorem P218_189 {d ex : Nat} {rr : m_R} {s : g_S} {p1 : Int32} {p2 : Int32} {x3 : Int32} {x4 : Int32}   {z : ((Int32 × g_S) ⊕ ((Int32 × g_S) ⊕ (g_S)))} (H : f218_189 s p1 p2 x3 x4 = some z) (hd : 13 ≤ d) (K0 : ∀ S : Int32 × g_S, z = .inl S → n_R X (d + 1) 218 189 [some (.ref 199), some (.int p1), some (.int p2), some (.int x3), some (.int S.1)] [] (g_M S.2 ex) rr) (K1 : ∀ S : Int32 × g_S, z = .inr (.inl S) → ∀ u4 : Option Value, n_R X (d + 1) 218 184 [some (.ref 199), some (.int p1), some (.int p2), some (.int S.1), u4] [] (g_M S.2 ex) rr) (Kr : ∀ q, z = .inr (.inr (q)) → g_rSV q ex = rr) : n_R X (d + 1) 218 189 [some (.ref 199), some (.int p1), some (.int p2), some (.int x3), some (.int x4)] [] (g_M s ex) rr := by
  unfold f218_189 at H
  refine g_go 2 md_218 (i1 := 191) rfl ?_
  by_cases h1 : x4 < 3
  · rw [if_pos h1] at H
    refine n_cmpF (n_q md_218 rfl) (fun e1 => absurd (of_decide_eq_true e1) (Int32.not_le.mpr h1)) ?_
    refine g_go 1 md_218 (i1 := 193) rfl ?_
    refine g_getr 259 (n_q md_218 rfl) t_199 rfl ?_
    refine g_go 1 md_218 (i1 := 195) rfl ?_
    obtain ⟨h2, H⟩ := g_gd H
    refine g_aald (n_q md_218 rfl) ta_259 (by decide) h2 (g_range (g_inlt h2)) ?_
    refine g_go 11 md_218 (i1 := 207) rfl ?_
    refine g_getr 259 (n_q md_218 rfl) t_199 rfl ?_
    refine g_go 1 md_218 (i1 := 209) rfl ?_
    refine g_aald (n_q md_218 rfl) ta_259 (by decide) h2 (g_range (g_inlt h2)) ?_
    refine g_go 1 md_218 (i1 := 211) rfl ?_
    obtain ⟨h3, H⟩ := g_gd H
    refine g_iald (n_q md_218 rfl) (te_259 (g_inlt h2)) h3 ?_
    refine g_go 1 md_218 (i1 := 213) rfl ?_
    obtain ⟨v4, s5, hv4, H⟩ := g_bdp H
    refine n_callv (n_q md_218 rfl) (As := [.ref 199, .int p1, .int ((170 + (3 * x3)) + x4), .int (s (260 + x3.toNatClampNeg) x4.toNatClampNeg), .int p2]) (rest := [.int x4, .ref (260 + x3.toNatClampNeg)]) rfl rfl (Nat.le_of_ble_eq_true rfl) rfl (g_recv (b := 0) rfl t_199 rfl) (C217 (by omega) hv4) ?_
    obtain ⟨s6, es6, H⟩ := g_letp H
    refine g_iast (n_q md_218 rfl) (te_259 (g_inlt h2)) h3 es6 ?_
    refine g_go 2 md_218 (i1 := 189) (ls1 := [some (.ref 199), some (.int p1), some (.int p2), some (.int x3), some (.int (x4 + 1))]) rfl ?_
    cases H
    exact K0 (x4 + 1, s6) rfl
  · rw [if_neg h1] at H
    refine n_cmpT (n_q md_218 rfl) (decide_eq_true (Int32.not_lt.mp h1)) ?_
    refine g_go 2 md_218 (i1 := 184) (ls1 := [some (.ref 199), some (.int p1), some (.int p2), some (.int (x3 + 1)), some (.int x4)]) rfl ?_
    cases H
    exact K1 (x3 + 1, s) rfl _
noncomputable def f218_189L (s : g_S) (p1 : Int32) (p2 : Int32) (x3 : Int32) (x4 : Int32) : Option ((Int32 × g_S) ⊕ (g_S)) := g_run (fun S : Int32 × g_S => f218_189 S.2 p1 p2 x3 S.1) (x4, s)
theorem f218_189L_eq (s : g_S) (p1 : Int32) (p2 : Int32) (x3 : Int32) (x4 : Int32) : f218_189L s p1 p2 x3 x4 = g_st (f218_189 s p1 p2 x3 x4) (fun S => f218_189L S.2 p1 p2 x3 S.1) := by
  unfold f218_189L
  exact g_run_eq _ _
theorem P218_189L {d ex : Nat} {rr : m_R} {s : g_S} {p1 : Int32} {p2 : Int32} {x3 : Int32} {x4 : Int32}   {z : ((Int32 × g_S) ⊕ (g_S))} (H : f218_189L s p1 p2 x3 x4 = some z) (hd : 13 ≤ d) (K0 : ∀ S : Int32 × g_S, z = .inl S → ∀ u4 : Option Value, n_R X (d + 1) 218 184 [some (.ref 199), some (.int p1), some (.int p2), some (.int S.1), u4] [] (g_M S.2 ex) rr) (Kr : ∀ q, z = .inr (q) → g_rSV q ex = rr) : n_R X (d + 1) 218 189 [some (.ref 199), some (.int p1), some (.int p2), some (.int x3), some (.int x4)] [] (g_M s ex) rr := by
  unfold f218_189L at H
  have KO0 := K0
  have KOr := Kr
  refine g_rs (Q := fun S => n_R X (d + 1) 218 189 [some (.ref 199), some (.int p1), some (.int p2), some (.int x3), some (.int S.1)] [] (g_M S.2 ex) rr) H ?_
  intro S w hb K0 KK
  refine P218_189 hb hd ?_ ?_ ?_
  · exact fun S1 e1 => K0 S1 e1
  · exact fun S1 e1 => KO0 S1 (KK _ e1).symm
  · exact fun q e1 => KOr q (KK _ e1).symm
noncomputable def f218_184 (s : g_S) (p1 : Int32) (p2 : Int32) (x3 : Int32) : Option ((Int32 × g_S) ⊕ (g_S)) := (if x3 < 8 then (f218_189L s p1 p2 x3 0) else (Option.map (fun w => (.inr (w) : ((Int32 × g_S) ⊕ (g_S)))) (f218_221L s p1 p2 0)))
theorem P218_184 {d ex : Nat} {rr : m_R} {s : g_S} {p1 : Int32} {p2 : Int32} {x3 : Int32} {u4 : Option Value}   {z : ((Int32 × g_S) ⊕ (g_S))} (H : f218_184 s p1 p2 x3 = some z) (hd : 13 ≤ d) (K0 : ∀ S : Int32 × g_S, z = .inl S → ∀ u4 : Option Value, n_R X (d + 1) 218 184 [some (.ref 199), some (.int p1), some (.int p2), some (.int S.1), u4] [] (g_M S.2 ex) rr) (Kr : ∀ q, z = .inr (q) → g_rSV q ex = rr) : n_R X (d + 1) 218 184 [some (.ref 199), some (.int p1), some (.int p2), some (.int x3), u4] [] (g_M s ex) rr := by
  unfold f218_184 at H
  refine g_go 2 md_218 (i1 := 186) rfl ?_
  by_cases h1 : x3 < 8
  · rw [if_pos h1] at H
    refine n_cmpF (n_q md_218 rfl) (fun e1 => absurd (of_decide_eq_true e1) (Int32.not_le.mpr h1)) ?_
    refine g_go 2 md_218 (i1 := 189) (ls1 := [some (.ref 199), some (.int p1), some (.int p2), some (.int x3), some (.int 0)]) rfl ?_
    exact P218_189L H hd K0 Kr
  · rw [if_neg h1] at H
    refine n_cmpT (n_q md_218 rfl) (decide_eq_true (Int32.not_lt.mp h1)) ?_
    refine g_go 2 md_218 (i1 := 221) (ls1 := [some (.ref 199), some (.int p1), some (.int p2), some (.int 0), u4]) rfl ?_
    obtain ⟨w, hw, H⟩ := g_mapp H
    subst H
    rw [← Kr _ rfl]
    exact P218_221L hw hd
noncomputable def f218_184L (s : g_S) (p1 : Int32) (p2 : Int32) (x3 : Int32) : Option (g_S) := g_run (fun S : Int32 × g_S => f218_184 S.2 p1 p2 S.1) (x3, s)
theorem f218_184L_eq (s : g_S) (p1 : Int32) (p2 : Int32) (x3 : Int32) : f218_184L s p1 p2 x3 = g_st (f218_184 s p1 p2 x3) (fun S => f218_184L S.2 p1 p2 S.1) := by
  unfold f218_184L
  exact g_run_eq _ _
theorem P218_184L {d ex : Nat} {s : g_S} {p1 : Int32} {p2 : Int32} {x3 : Int32} {u4 : Option Value}   {z : (g_S)} (H : f218_184L s p1 p2 x3 = some z) (hd : 13 ≤ d)  : n_R X (d + 1) 218 184 [some (.ref 199), some (.int p1), some (.int p2), some (.int x3), u4] [] (g_M s ex) (g_rSV z ex) := by
  unfold f218_184L at H
  refine g_rs (Q := fun S => ∀ u4 : Option Value, n_R X (d + 1) 218 184 [some (.ref 199), some (.int p1), some (.int p2), some (.int S.1), u4] [] (g_M S.2 ex) (g_rSV z ex)) H ?_ u4
  intro S w hb K0 KK u4
  refine P218_184 hb hd ?_ ?_
  · exact fun S1 e1 => K0 S1 e1
  · exact fun q e1 => by rw [KK q e1]
noncomputable def f218_177 (s : g_S) (p1 : Int32) (p2 : Int32) (x3 : Int32) (x4 : Int32) (y0 : Nat) (y1 : Int32) (y2 : Int32) : Option ((Int32 × g_S) ⊕ ((Int32 × g_S) ⊕ (g_S))) := (if m_in y1 4 = true then if m_isb y2 = true then g_let (g_w s y0 y1.toNatClampNeg y2) fun s3 => some (.inl (x4 + 1, s3)) else none else none)
theorem P218_177 {d ex : Nat} {rr : m_R} {s : g_S} {p1 : Int32} {p2 : Int32} {x3 : Int32} {x4 : Int32} {y0 : Nat} {y1 : Int32} {y2 : Int32}  (hy0 : g_lay y0 = (2, (4, []))) {z : ((Int32 × g_S) ⊕ ((Int32 × g_S) ⊕ (g_S)))} (H : f218_177 s p1 p2 x3 x4 y0 y1 y2 = some z) (hd : 13 ≤ d) (K0 : ∀ S : Int32 × g_S, z = .inl S → n_R X (d + 1) 218 143 [some (.ref 199), some (.int p1), some (.int p2), some (.int x3), some (.int S.1)] [] (g_M S.2 ex) rr) (K1 : ∀ S : Int32 × g_S, z = .inr (.inl S) → ∀ u4 : Option Value, n_R X (d + 1) 218 74 [some (.ref 199), some (.int p1), some (.int p2), some (.int S.1), u4] [] (g_M S.2 ex) rr) (Kr : ∀ q, z = .inr (.inr (q)) → g_rSV q ex = rr) : n_R X (d + 1) 218 177 [some (.ref 199), some (.int p1), some (.int p2), some (.int x3), some (.int x4)] [.int y2, .int y1, .ref y0] (g_M s ex) rr := by
  unfold f218_177 at H
  obtain ⟨h1, H⟩ := g_gd H
  obtain ⟨hb2, H⟩ := g_gd H
  obtain ⟨s3, es3, H⟩ := g_letp H
  refine g_bast (n_q md_218 rfl) hy0 h1 hb2 es3 ?_
  refine g_go 2 md_218 (i1 := 143) (ls1 := [some (.ref 199), some (.int p1), some (.int p2), some (.int x3), some (.int (x4 + 1))]) rfl ?_
  cases H
  exact K0 (x4 + 1, s3) rfl
noncomputable def f218_170 (s : g_S) (p1 : Int32) (p2 : Int32) (x3 : Int32) (x4 : Int32) (y0 : Nat) (y1 : Int32) (y3 : Int32) (y4 : Int32) (y5 : Int32) : Option ((Int32 × g_S) ⊕ ((Int32 × g_S) ⊕ (g_S))) := (g_bd (f217 s y3 y4 y5 p2) fun v1 s2 => if v1 = 1 then (f218_177 s2 p1 p2 x3 x4 y0 y1 1) else (f218_177 s2 p1 p2 x3 x4 y0 y1 0))
theorem P218_170 {d ex : Nat} {rr : m_R} {s : g_S} {p1 : Int32} {p2 : Int32} {x3 : Int32} {x4 : Int32} {y0 : Nat} {y1 : Int32} {y3 : Int32} {y4 : Int32} {y5 : Int32}  (hy0 : g_lay y0 = (2, (4, []))) {z : ((Int32 × g_S) ⊕ ((Int32 × g_S) ⊕ (g_S)))} (H : f218_170 s p1 p2 x3 x4 y0 y1 y3 y4 y5 = some z) (hd : 13 ≤ d) (K0 : ∀ S : Int32 × g_S, z = .inl S → n_R X (d + 1) 218 143 [some (.ref 199), some (.int p1), some (.int p2), some (.int x3), some (.int S.1)] [] (g_M S.2 ex) rr) (K1 : ∀ S : Int32 × g_S, z = .inr (.inl S) → ∀ u4 : Option Value, n_R X (d + 1) 218 74 [some (.ref 199), some (.int p1), some (.int p2), some (.int S.1), u4] [] (g_M S.2 ex) rr) (Kr : ∀ q, z = .inr (.inr (q)) → g_rSV q ex = rr) : n_R X (d + 1) 218 170 [some (.ref 199), some (.int p1), some (.int p2), some (.int x3), some (.int x4)] [.int y5, .int y4, .int y3, .ref 199, .int y1, .ref y0] (g_M s ex) rr := by
  unfold f218_170 at H
  refine g_go 1 md_218 (i1 := 171) rfl ?_
  obtain ⟨v1, s2, hv1, H⟩ := g_bdp H
  refine n_callv (n_q md_218 rfl) (As := [.ref 199, .int y3, .int y4, .int y5, .int p2]) (rest := [.int y1, .ref y0]) rfl rfl (Nat.le_of_ble_eq_true rfl) rfl (g_recv (b := 0) rfl t_199 rfl) (C217 (by omega) hv1) ?_
  refine g_go 1 md_218 (i1 := 173) rfl ?_
  by_cases h3 : v1 = 1
  · rw [if_pos h3] at H
    refine n_cmpF (n_q md_218 rfl) (fun e1 => of_decide_eq_true e1 h3) ?_
    refine g_go 2 md_218 (i1 := 177) rfl ?_
    exact P218_177 hy0 H hd K0 K1 Kr
  · rw [if_neg h3] at H
    refine n_cmpT (n_q md_218 rfl) (decide_eq_true h3) ?_
    refine g_go 1 md_218 (i1 := 177) rfl ?_
    exact P218_177 hy0 H hd K0 K1 Kr
noncomputable def f218_143 (s : g_S) (p1 : Int32) (p2 : Int32) (x3 : Int32) (x4 : Int32) : Option ((Int32 × g_S) ⊕ ((Int32 × g_S) ⊕ (g_S))) := (if x4 < 4 then (if m_in x3 13 = true then if m_in x4 4 = true then if (s (225 + x3.toNatClampNeg) x4.toNatClampNeg) = 0 then (f218_170 s p1 p2 x3 x4 (225 + x3.toNatClampNeg) x4 p1 ((17 + (12 * x3)) + x4) 0) else (f218_170 s p1 p2 x3 x4 (225 + x3.toNatClampNeg) x4 p1 ((17 + (12 * x3)) + x4) 1) else none else none) else (some (.inr (.inl (x3 + 1, s)))))
theorem P218_143 {d ex : Nat} {rr : m_R} {s : g_S} {p1 : Int32} {p2 : Int32} {x3 : Int32} {x4 : Int32}   {z : ((Int32 × g_S) ⊕ ((Int32 × g_S) ⊕ (g_S)))} (H : f218_143 s p1 p2 x3 x4 = some z) (hd : 13 ≤ d) (K0 : ∀ S : Int32 × g_S, z = .inl S → n_R X (d + 1) 218 143 [some (.ref 199), some (.int p1), some (.int p2), some (.int x3), some (.int S.1)] [] (g_M S.2 ex) rr) (K1 : ∀ S : Int32 × g_S, z = .inr (.inl S) → ∀ u4 : Option Value, n_R X (d + 1) 218 74 [some (.ref 199), some (.int p1), some (.int p2), some (.int S.1), u4] [] (g_M S.2 ex) rr) (Kr : ∀ q, z = .inr (.inr (q)) → g_rSV q ex = rr) : n_R X (d + 1) 218 143 [some (.ref 199), some (.int p1), some (.int p2), some (.int x3), some (.int x4)] [] (g_M s ex) rr := by
  unfold f218_143 at H
  refine g_go 2 md_218 (i1 := 145) rfl ?_
  by_cases h1 : x4 < 4
  · rw [if_pos h1] at H
    refine n_cmpF (n_q md_218 rfl) (fun e1 => absurd (of_decide_eq_true e1) (Int32.not_le.mpr h1)) ?_
    refine g_go 1 md_218 (i1 := 147) rfl ?_
    refine g_getr 224 (n_q md_218 rfl) t_199 rfl ?_
    refine g_go 1 md_218 (i1 := 149) rfl ?_
    obtain ⟨h2, H⟩ := g_gd H
    refine g_aald (n_q md_218 rfl) ta_224 (by decide) h2 (g_range (g_inlt h2)) ?_
    refine g_go 11 md_218 (i1 := 161) rfl ?_
    refine g_getr 224 (n_q md_218 rfl) t_199 rfl ?_
    refine g_go 1 md_218 (i1 := 163) rfl ?_
    refine g_aald (n_q md_218 rfl) ta_224 (by decide) h2 (g_range (g_inlt h2)) ?_
    refine g_go 1 md_218 (i1 := 165) rfl ?_
    obtain ⟨h3, H⟩ := g_gd H
    refine g_bald (n_q md_218 rfl) (te_224 (g_inlt h2)) h3 ?_
    by_cases h4 : (s (225 + x3.toNatClampNeg) x4.toNatClampNeg) = 0
    · rw [if_pos h4] at H
      refine n_ifT (n_q md_218 rfl) (decide_eq_true h4) ?_
      refine g_go 1 md_218 (i1 := 170) rfl ?_
      exact P218_170 (te_224 (g_inlt h2)) H hd K0 K1 Kr
    · rw [if_neg h4] at H
      refine n_ifF (n_q md_218 rfl) (fun e1 => h4 (of_decide_eq_true e1)) ?_
      refine g_go 2 md_218 (i1 := 170) rfl ?_
      exact P218_170 (te_224 (g_inlt h2)) H hd K0 K1 Kr
  · rw [if_neg h1] at H
    refine n_cmpT (n_q md_218 rfl) (decide_eq_true (Int32.not_lt.mp h1)) ?_
    refine g_go 2 md_218 (i1 := 74) (ls1 := [some (.ref 199), some (.int p1), some (.int p2), some (.int (x3 + 1)), some (.int x4)]) rfl ?_
    cases H
    exact K1 (x3 + 1, s) rfl _
noncomputable def f218_143L (s : g_S) (p1 : Int32) (p2 : Int32) (x3 : Int32) (x4 : Int32) : Option ((Int32 × g_S) ⊕ (g_S)) := g_run (fun S : Int32 × g_S => f218_143 S.2 p1 p2 x3 S.1) (x4, s)
theorem f218_143L_eq (s : g_S) (p1 : Int32) (p2 : Int32) (x3 : Int32) (x4 : Int32) : f218_143L s p1 p2 x3 x4 = g_st (f218_143 s p1 p2 x3 x4) (fun S => f218_143L S.2 p1 p2 x3 S.1) := by
  unfold f218_143L
  exact g_run_eq _ _
theorem P218_143L {d ex : Nat} {rr : m_R} {s : g_S} {p1 : Int32} {p2 : Int32} {x3 : Int32} {x4 : Int32}   {z : ((Int32 × g_S) ⊕ (g_S))} (H : f218_143L s p1 p2 x3 x4 = some z) (hd : 13 ≤ d) (K0 : ∀ S : Int32 × g_S, z = .inl S → ∀ u4 : Option Value, n_R X (d + 1) 218 74 [some (.ref 199), some (.int p1), some (.int p2), some (.int S.1), u4] [] (g_M S.2 ex) rr) (Kr : ∀ q, z = .inr (q) → g_rSV q ex = rr) : n_R X (d + 1) 218 143 [some (.ref 199), some (.int p1), some (.int p2), some (.int x3), some (.int x4)] [] (g_M s ex) rr := by
  unfold f218_143L at H
  have KO0 := K0
  have KOr := Kr
  refine g_rs (Q := fun S => n_R X (d + 1) 218 143 [some (.ref 199), some (.int p1), some (.int p2), some (.int x3), some (.int S.1)] [] (g_M S.2 ex) rr) H ?_
  intro S w hb K0 KK
  refine P218_143 hb hd ?_ ?_ ?_
  · exact fun S1 e1 => K0 S1 e1
  · exact fun S1 e1 => KO0 S1 (KK _ e1).symm
  · exact fun q e1 => KOr q (KK _ e1).symm
noncomputable def f218_107 (s : g_S) (p1 : Int32) (p2 : Int32) (x3 : Int32) : Option ((Int32 × g_S) ⊕ (g_S)) := (if m_in x3 13 = true then g_bd (f217 s p1 (15 + (12 * x3)) (s 222 x3.toNatClampNeg) p2) fun v2 s3 => g_let (g_w s3 222 x3.toNatClampNeg v2) fun s4 => g_bd (f217 s4 p1 (16 + (12 * x3)) (s4 223 x3.toNatClampNeg) p2) fun v5 s6 => g_let (g_w s6 223 x3.toNatClampNeg v5) fun s7 => f218_143L s7 p1 p2 x3 0 else none)
theorem P218_107 {d ex : Nat} {rr : m_R} {s : g_S} {p1 : Int32} {p2 : Int32} {x3 : Int32} {u4 : Option Value}   {z : ((Int32 × g_S) ⊕ (g_S))} (H : f218_107 s p1 p2 x3 = some z) (hd : 13 ≤ d) (K0 : ∀ S : Int32 × g_S, z = .inl S → ∀ u4 : Option Value, n_R X (d + 1) 218 74 [some (.ref 199), some (.int p1), some (.int p2), some (.int S.1), u4] [] (g_M S.2 ex) rr) (Kr : ∀ q, z = .inr (q) → g_rSV q ex = rr) : n_R X (d + 1) 218 107 [some (.ref 199), some (.int p1), some (.int p2), some (.int x3), u4] [] (g_M s ex) rr := by
  unfold f218_107 at H
  refine g_go 1 md_218 (i1 := 108) rfl ?_
  refine g_getr 222 (n_q md_218 rfl) t_199 rfl ?_
  refine g_go 9 md_218 (i1 := 118) rfl ?_
  refine g_getr 222 (n_q md_218 rfl) t_199 rfl ?_
  refine g_go 1 md_218 (i1 := 120) rfl ?_
  obtain ⟨h1, H⟩ := g_gd H
  refine g_iald (n_q md_218 rfl) t_222 h1 ?_
  refine g_go 1 md_218 (i1 := 122) rfl ?_
  obtain ⟨v2, s3, hv2, H⟩ := g_bdp H
  refine n_callv (n_q md_218 rfl) (As := [.ref 199, .int p1, .int (15 + (12 * x3)), .int (s 222 x3.toNatClampNeg), .int p2]) (rest := [.int x3, .ref 222]) rfl rfl (Nat.le_of_ble_eq_true rfl) rfl (g_recv (b := 0) rfl t_199 rfl) (C217 (by omega) hv2) ?_
  obtain ⟨s4, es4, H⟩ := g_letp H
  refine g_iast (n_q md_218 rfl) t_222 h1 es4 ?_
  refine g_go 1 md_218 (i1 := 125) rfl ?_
  refine g_getr 223 (n_q md_218 rfl) t_199 rfl ?_
  refine g_go 9 md_218 (i1 := 135) rfl ?_
  refine g_getr 223 (n_q md_218 rfl) t_199 rfl ?_
  refine g_go 1 md_218 (i1 := 137) rfl ?_
  refine g_iald (n_q md_218 rfl) t_223 h1 ?_
  refine g_go 1 md_218 (i1 := 139) rfl ?_
  obtain ⟨v5, s6, hv5, H⟩ := g_bdp H
  refine n_callv (n_q md_218 rfl) (As := [.ref 199, .int p1, .int (16 + (12 * x3)), .int (s4 223 x3.toNatClampNeg), .int p2]) (rest := [.int x3, .ref 223]) rfl rfl (Nat.le_of_ble_eq_true rfl) rfl (g_recv (b := 0) rfl t_199 rfl) (C217 (by omega) hv5) ?_
  obtain ⟨s7, es7, H⟩ := g_letp H
  refine g_iast (n_q md_218 rfl) t_223 h1 es7 ?_
  refine g_go 2 md_218 (i1 := 143) (ls1 := [some (.ref 199), some (.int p1), some (.int p2), some (.int x3), some (.int 0)]) rfl ?_
  exact P218_143L H hd K0 Kr
noncomputable def f218_79 (s : g_S) (p1 : Int32) (p2 : Int32) (x3 : Int32) (x4 : Int32) : Option ((Int32 × g_S) ⊕ ((Int32 × g_S) ⊕ (g_S))) := (if x4 < 5 then (if m_in x3 13 = true then if m_in x4 5 = true then g_bd (f217 s p1 ((10 + (12 * x3)) + x4) (s (209 + x3.toNatClampNeg) x4.toNatClampNeg) p2) fun v4 s5 => g_let (g_w s5 (209 + x3.toNatClampNeg) x4.toNatClampNeg v4) fun s6 => some (.inl (x4 + 1, s6)) else none else none) else (Option.map (fun w => (.inr (w) : ((Int32 × g_S) ⊕ ((Int32 × g_S) ⊕ (g_S))))) (f218_107 s p1 p2 x3)))
theorem P218_79 {d ex : Nat} {rr : m_R} {s : g_S} {p1 : Int32} {p2 : Int32} {x3 : Int32} {x4 : Int32}   {z : ((Int32 × g_S) ⊕ ((Int32 × g_S) ⊕ (g_S)))} (H : f218_79 s p1 p2 x3 x4 = some z) (hd : 13 ≤ d) (K0 : ∀ S : Int32 × g_S, z = .inl S → n_R X (d + 1) 218 79 [some (.ref 199), some (.int p1), some (.int p2), some (.int x3), some (.int S.1)] [] (g_M S.2 ex) rr) (K1 : ∀ S : Int32 × g_S, z = .inr (.inl S) → ∀ u4 : Option Value, n_R X (d + 1) 218 74 [some (.ref 199), some (.int p1), some (.int p2), some (.int S.1), u4] [] (g_M S.2 ex) rr) (Kr : ∀ q, z = .inr (.inr (q)) → g_rSV q ex = rr) : n_R X (d + 1) 218 79 [some (.ref 199), some (.int p1), some (.int p2), some (.int x3), some (.int x4)] [] (g_M s ex) rr := by
  unfold f218_79 at H
  refine g_go 2 md_218 (i1 := 81) rfl ?_
  by_cases h1 : x4 < 5
  · rw [if_pos h1] at H
    refine n_cmpF (n_q md_218 rfl) (fun e1 => absurd (of_decide_eq_true e1) (Int32.not_le.mpr h1)) ?_
    refine g_go 1 md_218 (i1 := 83) rfl ?_
    refine g_getr 208 (n_q md_218 rfl) t_199 rfl ?_
    refine g_go 1 md_218 (i1 := 85) rfl ?_
    obtain ⟨h2, H⟩ := g_gd H
    refine g_aald (n_q md_218 rfl) ta_208 (by decide) h2 (g_range (g_inlt h2)) ?_
    refine g_go 11 md_218 (i1 := 97) rfl ?_
    refine g_getr 208 (n_q md_218 rfl) t_199 rfl ?_
    refine g_go 1 md_218 (i1 := 99) rfl ?_
    refine g_aald (n_q md_218 rfl) ta_208 (by decide) h2 (g_range (g_inlt h2)) ?_
    refine g_go 1 md_218 (i1 := 101) rfl ?_
    obtain ⟨h3, H⟩ := g_gd H
    refine g_iald (n_q md_218 rfl) (te_208 (g_inlt h2)) h3 ?_
    refine g_go 1 md_218 (i1 := 103) rfl ?_
    obtain ⟨v4, s5, hv4, H⟩ := g_bdp H
    refine n_callv (n_q md_218 rfl) (As := [.ref 199, .int p1, .int ((10 + (12 * x3)) + x4), .int (s (209 + x3.toNatClampNeg) x4.toNatClampNeg), .int p2]) (rest := [.int x4, .ref (209 + x3.toNatClampNeg)]) rfl rfl (Nat.le_of_ble_eq_true rfl) rfl (g_recv (b := 0) rfl t_199 rfl) (C217 (by omega) hv4) ?_
    obtain ⟨s6, es6, H⟩ := g_letp H
    refine g_iast (n_q md_218 rfl) (te_208 (g_inlt h2)) h3 es6 ?_
    refine g_go 2 md_218 (i1 := 79) (ls1 := [some (.ref 199), some (.int p1), some (.int p2), some (.int x3), some (.int (x4 + 1))]) rfl ?_
    cases H
    exact K0 (x4 + 1, s6) rfl
  · rw [if_neg h1] at H
    refine n_cmpT (n_q md_218 rfl) (decide_eq_true (Int32.not_lt.mp h1)) ?_
    obtain ⟨w, hw, H⟩ := g_mapp H
    subst H
    exact P218_107 hw hd (fun S1 e1 => K1 S1 (by rw [e1])) (fun q e1 => Kr q (by rw [e1]))
noncomputable def f218_79L (s : g_S) (p1 : Int32) (p2 : Int32) (x3 : Int32) (x4 : Int32) : Option ((Int32 × g_S) ⊕ (g_S)) := g_run (fun S : Int32 × g_S => f218_79 S.2 p1 p2 x3 S.1) (x4, s)
theorem f218_79L_eq (s : g_S) (p1 : Int32) (p2 : Int32) (x3 : Int32) (x4 : Int32) : f218_79L s p1 p2 x3 x4 = g_st (f218_79 s p1 p2 x3 x4) (fun S => f218_79L S.2 p1 p2 x3 S.1) := by
  unfold f218_79L
  exact g_run_eq _ _
theorem P218_79L {d ex : Nat} {rr : m_R} {s : g_S} {p1 : Int32} {p2 : Int32} {x3 : Int32} {x4 : Int32}   {z : ((Int32 × g_S) ⊕ (g_S))} (H : f218_79L s p1 p2 x3 x4 = some z) (hd : 13 ≤ d) (K0 : ∀ S : Int32 × g_S, z = .inl S → ∀ u4 : Option Value, n_R X (d + 1) 218 74 [some (.ref 199), some (.int p1), some (.int p2), some (.int S.1), u4] [] (g_M S.2 ex) rr) (Kr : ∀ q, z = .inr (q) → g_rSV q ex = rr) : n_R X (d + 1) 218 79 [some (.ref 199), some (.int p1), some (.int p2), some (.int x3), some (.int x4)] [] (g_M s ex) rr := by
  unfold f218_79L at H
  have KO0 := K0
  have KOr := Kr
  refine g_rs (Q := fun S => n_R X (d + 1) 218 79 [some (.ref 199), some (.int p1), some (.int p2), some (.int x3), some (.int S.1)] [] (g_M S.2 ex) rr) H ?_
  intro S w hb K0 KK
  refine P218_79 hb hd ?_ ?_ ?_
  · exact fun S1 e1 => K0 S1 e1
  · exact fun S1 e1 => KO0 S1 (KK _ e1).symm
  · exact fun q e1 => KOr q (KK _ e1).symm
noncomputable def f218_74 (s : g_S) (p1 : Int32) (p2 : Int32) (x3 : Int32) : Option ((Int32 × g_S) ⊕ (g_S)) := (if x3 < 13 then (f218_79L s p1 p2 x3 0) else (Option.map (fun w => (.inr (w) : ((Int32 × g_S) ⊕ (g_S)))) (f218_184L s p1 p2 0)))
theorem P218_74 {d ex : Nat} {rr : m_R} {s : g_S} {p1 : Int32} {p2 : Int32} {x3 : Int32} {u4 : Option Value}   {z : ((Int32 × g_S) ⊕ (g_S))} (H : f218_74 s p1 p2 x3 = some z) (hd : 13 ≤ d) (K0 : ∀ S : Int32 × g_S, z = .inl S → ∀ u4 : Option Value, n_R X (d + 1) 218 74 [some (.ref 199), some (.int p1), some (.int p2), some (.int S.1), u4] [] (g_M S.2 ex) rr) (Kr : ∀ q, z = .inr (q) → g_rSV q ex = rr) : n_R X (d + 1) 218 74 [some (.ref 199), some (.int p1), some (.int p2), some (.int x3), u4] [] (g_M s ex) rr := by
  unfold f218_74 at H
  refine g_go 2 md_218 (i1 := 76) rfl ?_
  by_cases h1 : x3 < 13
  · rw [if_pos h1] at H
    refine n_cmpF (n_q md_218 rfl) (fun e1 => absurd (of_decide_eq_true e1) (Int32.not_le.mpr h1)) ?_
    refine g_go 2 md_218 (i1 := 79) (ls1 := [some (.ref 199), some (.int p1), some (.int p2), some (.int x3), some (.int 0)]) rfl ?_
    exact P218_79L H hd K0 Kr
  · rw [if_neg h1] at H
    refine n_cmpT (n_q md_218 rfl) (decide_eq_true (Int32.not_lt.mp h1)) ?_
    refine g_go 2 md_218 (i1 := 184) (ls1 := [some (.ref 199), some (.int p1), some (.int p2), some (.int 0), u4]) rfl ?_
    obtain ⟨w, hw, H⟩ := g_mapp H
    subst H
    rw [← Kr _ rfl]
    exact P218_184L hw hd
noncomputable def f218_74L (s : g_S) (p1 : Int32) (p2 : Int32) (x3 : Int32) : Option (g_S) := g_run (fun S : Int32 × g_S => f218_74 S.2 p1 p2 S.1) (x3, s)
theorem f218_74L_eq (s : g_S) (p1 : Int32) (p2 : Int32) (x3 : Int32) : f218_74L s p1 p2 x3 = g_st (f218_74 s p1 p2 x3) (fun S => f218_74L S.2 p1 p2 S.1) := by
  unfold f218_74L
  exact g_run_eq _ _
theorem P218_74L {d ex : Nat} {s : g_S} {p1 : Int32} {p2 : Int32} {x3 : Int32} {u4 : Option Value}   {z : (g_S)} (H : f218_74L s p1 p2 x3 = some z) (hd : 13 ≤ d)  : n_R X (d + 1) 218 74 [some (.ref 199), some (.int p1), some (.int p2), some (.int x3), u4] [] (g_M s ex) (g_rSV z ex) := by
  unfold f218_74L at H
  refine g_rs (Q := fun S => ∀ u4 : Option Value, n_R X (d + 1) 218 74 [some (.ref 199), some (.int p1), some (.int p2), some (.int S.1), u4] [] (g_M S.2 ex) (g_rSV z ex)) H ?_ u4
  intro S w hb K0 KK u4
  refine P218_74 hb hd ?_ ?_
  · exact fun S1 e1 => K0 S1 e1
  · exact fun q e1 => by rw [KK q e1]
noncomputable def f218 (s : g_S) (p1 : Int32) (p2 : Int32) : Option (g_S) := (g_bd (f217 s p1 0 (s 199 26) p2) fun v1 s2 => g_let (g_w s2 199 26 v1) fun s3 => g_bd (f217 s3 p1 1 (s3 199 27) p2) fun v4 s5 => g_let (g_w s5 199 27 v4) fun s6 => g_bd (f217 s6 p1 2 (s6 199 28) p2) fun v7 s8 => g_let (g_w s8 199 28 v7) fun s9 => g_bd (f217 s9 p1 3 (s9 199 29) p2) fun v10 s11 => g_let (g_w s11 199 29 v10) fun s12 => g_bd (f217 s12 p1 4 (s12 199 13) p2) fun v13 s14 => g_let (g_w s14 199 13 v13) fun s15 => g_bd (f217 s15 p1 5 (s15 199 43) p2) fun v16 s17 => g_let (g_w s17 199 43 v16) fun s18 => g_bd (f217 s18 p1 6 (s18 199 49) p2) fun v19 s20 => g_let (g_w s20 199 49 v19) fun s21 => g_bd (f217 s21 p1 7 (s21 199 50) p2) fun v22 s23 => g_let (g_w s23 199 50 v22) fun s24 => f218_74L s24 p1 p2 0)
theorem C218 {d ex : Nat} {s : g_S} {p1 : Int32} {p2 : Int32}  {z : g_S} (hd : 13 < d) (H : f218 s p1 p2 = some z) : n_C X d 218 [.ref 199, .int p1, .int p2] (g_M s ex) (g_rSV z ex) := by
  obtain ⟨d, rfl⟩ : ∃ d1, d = d1 + 1 := ⟨d - 1, by omega⟩
  replace hd := Nat.le_of_lt_succ hd
  refine ⟨Nat.le_of_ble_eq_true rfl, ?_⟩
  rw [md_218]
  show n_R X (d + 1) 218 0 [some (.ref 199), some (.int p1), some (.int p2), none, none] [] (g_M s ex) _
  unfold f218 at H
  refine g_go 5 md_218 (i1 := 5) rfl ?_
  refine g_getf (n_q md_218 rfl) t_199 rfl ?_
  refine g_go 1 md_218 (i1 := 7) rfl ?_
  obtain ⟨v1, s2, hv1, H⟩ := g_bdp H
  refine n_callv (n_q md_218 rfl) (As := [.ref 199, .int p1, .int 0, .int (s 199 26), .int p2]) (rest := [.ref 199]) rfl rfl (Nat.le_of_ble_eq_true rfl) rfl (g_recv (b := 0) rfl t_199 rfl) (C217 (by omega) hv1) ?_
  obtain ⟨s3, es3, H⟩ := g_letp H
  refine g_putf (n_q md_218 rfl) t_199 rfl rfl es3 ?_
  refine g_go 5 md_218 (i1 := 14) rfl ?_
  refine g_getf (n_q md_218 rfl) t_199 rfl ?_
  refine g_go 1 md_218 (i1 := 16) rfl ?_
  obtain ⟨v4, s5, hv4, H⟩ := g_bdp H
  refine n_callv (n_q md_218 rfl) (As := [.ref 199, .int p1, .int 1, .int (s3 199 27), .int p2]) (rest := [.ref 199]) rfl rfl (Nat.le_of_ble_eq_true rfl) rfl (g_recv (b := 0) rfl t_199 rfl) (C217 (by omega) hv4) ?_
  obtain ⟨s6, es6, H⟩ := g_letp H
  refine g_putf (n_q md_218 rfl) t_199 rfl rfl es6 ?_
  refine g_go 5 md_218 (i1 := 23) rfl ?_
  refine g_getf (n_q md_218 rfl) t_199 rfl ?_
  refine g_go 1 md_218 (i1 := 25) rfl ?_
  obtain ⟨v7, s8, hv7, H⟩ := g_bdp H
  refine n_callv (n_q md_218 rfl) (As := [.ref 199, .int p1, .int 2, .int (s6 199 28), .int p2]) (rest := [.ref 199]) rfl rfl (Nat.le_of_ble_eq_true rfl) rfl (g_recv (b := 0) rfl t_199 rfl) (C217 (by omega) hv7) ?_
  obtain ⟨s9, es9, H⟩ := g_letp H
  refine g_putf (n_q md_218 rfl) t_199 rfl rfl es9 ?_
  refine g_go 5 md_218 (i1 := 32) rfl ?_
  refine g_getf (n_q md_218 rfl) t_199 rfl ?_
  refine g_go 1 md_218 (i1 := 34) rfl ?_
  obtain ⟨v10, s11, hv10, H⟩ := g_bdp H
  refine n_callv (n_q md_218 rfl) (As := [.ref 199, .int p1, .int 3, .int (s9 199 29), .int p2]) (rest := [.ref 199]) rfl rfl (Nat.le_of_ble_eq_true rfl) rfl (g_recv (b := 0) rfl t_199 rfl) (C217 (by omega) hv10) ?_
  obtain ⟨s12, es12, H⟩ := g_letp H
  refine g_putf (n_q md_218 rfl) t_199 rfl rfl es12 ?_
  refine g_go 5 md_218 (i1 := 41) rfl ?_
  refine g_getf (n_q md_218 rfl) t_199 rfl ?_
  refine g_go 1 md_218 (i1 := 43) rfl ?_
  obtain ⟨v13, s14, hv13, H⟩ := g_bdp H
  refine n_callv (n_q md_218 rfl) (As := [.ref 199, .int p1, .int 4, .int (s12 199 13), .int p2]) (rest := [.ref 199]) rfl rfl (Nat.le_of_ble_eq_true rfl) rfl (g_recv (b := 0) rfl t_199 rfl) (C217 (by omega) hv13) ?_
  obtain ⟨s15, es15, H⟩ := g_letp H
  refine g_putf (n_q md_218 rfl) t_199 rfl rfl es15 ?_
  refine g_go 5 md_218 (i1 := 50) rfl ?_
  refine g_getf (n_q md_218 rfl) t_199 rfl ?_
  refine g_go 1 md_218 (i1 := 52) rfl ?_
  obtain ⟨v16, s17, hv16, H⟩ := g_bdp H
  refine n_callv (n_q md_218 rfl) (As := [.ref 199, .int p1, .int 5, .int (s15 199 43), .int p2]) (rest := [.ref 199]) rfl rfl (Nat.le_of_ble_eq_true rfl) rfl (g_recv (b := 0) rfl t_199 rfl) (C217 (by omega) hv16) ?_
  obtain ⟨s18, es18, H⟩ := g_letp H
  refine g_putf (n_q md_218 rfl) t_199 rfl rfl es18 ?_
  refine g_go 5 md_218 (i1 := 59) rfl ?_
  refine g_getf (n_q md_218 rfl) t_199 rfl ?_
  refine g_go 1 md_218 (i1 := 61) rfl ?_
  obtain ⟨v19, s20, hv19, H⟩ := g_bdp H
  refine n_callv (n_q md_218 rfl) (As := [.ref 199, .int p1, .int 6, .int (s18 199 49), .int p2]) (rest := [.ref 199]) rfl rfl (Nat.le_of_ble_eq_true rfl) rfl (g_recv (b := 0) rfl t_199 rfl) (C217 (by omega) hv19) ?_
  obtain ⟨s21, es21, H⟩ := g_letp H
  refine g_putf (n_q md_218 rfl) t_199 rfl rfl es21 ?_
  refine g_go 5 md_218 (i1 := 68) rfl ?_
  refine g_getf (n_q md_218 rfl) t_199 rfl ?_
  refine g_go 1 md_218 (i1 := 70) rfl ?_
  obtain ⟨v22, s23, hv22, H⟩ := g_bdp H
  refine n_callv (n_q md_218 rfl) (As := [.ref 199, .int p1, .int 7, .int (s21 199 50), .int p2]) (rest := [.ref 199]) rfl rfl (Nat.le_of_ble_eq_true rfl) rfl (g_recv (b := 0) rfl t_199 rfl) (C217 (by omega) hv22) ?_
  obtain ⟨s24, es24, H⟩ := g_letp H
  refine g_putf (n_q md_218 rfl) t_199 rfl rfl es24 ?_
  refine g_go 2 md_218 (i1 := 74) (ls1 := [some (.ref 199), some (.int p1), some (.int p2), some (.int 0), none]) rfl ?_
  exact P218_74L H hd

theorem md_219 : m_md 219 = m_X8_image := rfl
noncomputable def f219 (s : g_S) : Option (Int32 × g_S) := (g_let (g_w s 199 0 0) fun s1 => if (s1 199 52) = 3 then (some (((-1), s1))) else ((f218 s1 (s1 199 52) 0).bind fun s4 => g_let (g_w s4 199 52 ((s4 199 52) + 1)) fun s5 => some ((s5 199 52, s5))))
theorem C219 {d ex : Nat} {s : g_S}  {z : Int32 × g_S} (hd : 14 < d) (H : f219 s = some z) : n_C X d 219 [.ref 199] (g_M s ex) (g_rSI z ex) := by
  obtain ⟨d, rfl⟩ : ∃ d1, d = d1 + 1 := ⟨d - 1, by omega⟩
  replace hd := Nat.le_of_lt_succ hd
  refine ⟨Nat.le_of_ble_eq_true rfl, ?_⟩
  rw [md_219]
  show n_R X (d + 1) 219 0 [some (.ref 199)] [] (g_M s ex) _
  unfold f219 at H
  refine g_go 2 md_219 (i1 := 2) rfl ?_
  obtain ⟨s1, es1, H⟩ := g_letp H
  refine g_putf (n_q md_219 rfl) t_199 rfl rfl es1 ?_
  refine g_go 1 md_219 (i1 := 4) rfl ?_
  refine g_getf (n_q md_219 rfl) t_199 rfl ?_
  refine g_go 1 md_219 (i1 := 6) rfl ?_
  by_cases h2 : (s1 199 52) = 3
  · rw [if_pos h2] at H
    refine n_cmpF (n_q md_219 rfl) (fun e1 => of_decide_eq_true e1 h2) ?_
    refine g_go 1 md_219 (i1 := 8) rfl ?_
    cases H
    exact n_iret (n_q md_219 rfl) (Or.inl rfl)
  · rw [if_neg h2] at H
    refine n_cmpT (n_q md_219 rfl) (decide_eq_true h2) ?_
    refine g_go 2 md_219 (i1 := 11) rfl ?_
    refine g_getf (n_q md_219 rfl) t_199 rfl ?_
    refine g_go 1 md_219 (i1 := 13) rfl ?_
    obtain ⟨s4, hs4, H⟩ := g_bind H
    refine n_call (n_q md_219 rfl) (As := [.ref 199, .int (s1 199 52), .int 0]) (rest := []) rfl rfl (Nat.le_of_ble_eq_true rfl) rfl (g_recv (b := 0) rfl t_199 rfl) (C218 (by omega) hs4) ?_
    refine g_go 2 md_219 (i1 := 16) rfl ?_
    refine g_getf (n_q md_219 rfl) t_199 rfl ?_
    refine g_go 2 md_219 (i1 := 19) rfl ?_
    obtain ⟨s5, es5, H⟩ := g_letp H
    refine g_putf (n_q md_219 rfl) t_199 rfl rfl es5 ?_
    refine g_go 1 md_219 (i1 := 21) rfl ?_
    refine g_getf (n_q md_219 rfl) t_199 rfl ?_
    cases H
    exact n_iret (n_q md_219 rfl) (Or.inl rfl)

theorem md_220 : m_md 220 = m_X8_restore := rfl
noncomputable def f220 (s : g_S) : Option (Int32 × g_S) := (g_let (g_w s 199 0 0) fun s1 => if (s1 199 52) = 0 then (some (((-1), s1))) else (g_let (g_w s1 199 52 ((s1 199 52) - 1)) fun s3 => (f218 s3 (s3 199 52) 1).bind fun s5 => some ((s5 199 52, s5))))
theorem C220 {d ex : Nat} {s : g_S}  {z : Int32 × g_S} (hd : 14 < d) (H : f220 s = some z) : n_C X d 220 [.ref 199] (g_M s ex) (g_rSI z ex) := by
  obtain ⟨d, rfl⟩ : ∃ d1, d = d1 + 1 := ⟨d - 1, by omega⟩
  replace hd := Nat.le_of_lt_succ hd
  refine ⟨Nat.le_of_ble_eq_true rfl, ?_⟩
  rw [md_220]
  show n_R X (d + 1) 220 0 [some (.ref 199)] [] (g_M s ex) _
  unfold f220 at H
  refine g_go 2 md_220 (i1 := 2) rfl ?_
  obtain ⟨s1, es1, H⟩ := g_letp H
  refine g_putf (n_q md_220 rfl) t_199 rfl rfl es1 ?_
  refine g_go 1 md_220 (i1 := 4) rfl ?_
  refine g_getf (n_q md_220 rfl) t_199 rfl ?_
  by_cases h2 : (s1 199 52) = 0
  · rw [if_pos h2] at H
    refine n_ifF (n_q md_220 rfl) (fun e1 => of_decide_eq_true e1 h2) ?_
    refine g_go 1 md_220 (i1 := 7) rfl ?_
    cases H
    exact n_iret (n_q md_220 rfl) (Or.inl rfl)
  · rw [if_neg h2] at H
    refine n_ifT (n_q md_220 rfl) (decide_eq_true h2) ?_
    refine g_go 2 md_220 (i1 := 10) rfl ?_
    refine g_getf (n_q md_220 rfl) t_199 rfl ?_
    refine g_go 2 md_220 (i1 := 13) rfl ?_
    obtain ⟨s3, es3, H⟩ := g_letp H
    refine g_putf (n_q md_220 rfl) t_199 rfl rfl es3 ?_
    refine g_go 2 md_220 (i1 := 16) rfl ?_
    refine g_getf (n_q md_220 rfl) t_199 rfl ?_
    refine g_go 1 md_220 (i1 := 18) rfl ?_
    obtain ⟨s5, hs5, H⟩ := g_bind H
    refine n_call (n_q md_220 rfl) (As := [.ref 199, .int (s3 199 52), .int 1]) (rest := []) rfl rfl (Nat.le_of_ble_eq_true rfl) rfl (g_recv (b := 0) rfl t_199 rfl) (C218 (by omega) hs5) ?_
    refine g_go 1 md_220 (i1 := 20) rfl ?_
    refine g_getf (n_q md_220 rfl) t_199 rfl ?_
    cases H
    exact n_iret (n_q md_220 rfl) (Or.inl rfl)

theorem md_221 : m_md 221 = m_X8_count := rfl
noncomputable def f221 (s : g_S) (p1 : Int32) : Option (Int32 × g_S) := (g_let (g_w s 199 0 0) fun s1 => (if p1 = 0 then (some ((s1 199 12, s1))) else (if p1 = 1 then (some ((s1 199 26, s1))) else (if p1 = 2 then (some ((s1 199 43, s1))) else (if p1 = 3 then (some ((s1 199 50, s1))) else (if p1 = 4 then (some ((s1 199 49, s1))) else (if p1 = 5 then (some ((s1 199 52, s1))) else (if p1 = 6 then (some ((s1 199 1, s1))) else (if p1 = 7 then (some ((s1 199 27, s1))) else (some (((-1), s1))))))))))))
theorem C221 {d ex : Nat} {s : g_S} {p1 : Int32}  {z : Int32 × g_S} (hd : 12 < d) (H : f221 s p1 = some z) : n_C X d 221 [.ref 199, .int p1] (g_M s ex) (g_rSI z ex) := by
  obtain ⟨d, rfl⟩ : ∃ d1, d = d1 + 1 := ⟨d - 1, by omega⟩
  replace hd := Nat.le_of_lt_succ hd
  refine ⟨Nat.le_of_ble_eq_true rfl, ?_⟩
  rw [md_221]
  show n_R X (d + 1) 221 0 [some (.ref 199), some (.int p1)] [] (g_M s ex) _
  unfold f221 at H
  refine g_go 2 md_221 (i1 := 2) rfl ?_
  obtain ⟨s1, es1, H⟩ := g_letp H
  refine g_putf (n_q md_221 rfl) t_199 rfl rfl es1 ?_
  refine g_go 1 md_221 (i1 := 4) rfl ?_
  refine n_sw (n_q md_221 rfl) ?_
  unfold m_sw
  by_cases h2 : p1 = 0
  · rw [if_pos h2] at H ⊢
    refine g_go 1 md_221 (i1 := 6) rfl ?_
    refine g_getf (n_q md_221 rfl) t_199 rfl ?_
    cases H
    exact n_iret (n_q md_221 rfl) (Or.inl rfl)
  · rw [if_neg h2] at H ⊢
    unfold m_sw
    by_cases h3 : p1 = 1
    · rw [if_pos h3] at H ⊢
      refine g_go 1 md_221 (i1 := 9) rfl ?_
      refine g_getf (n_q md_221 rfl) t_199 rfl ?_
      cases H
      exact n_iret (n_q md_221 rfl) (Or.inl rfl)
    · rw [if_neg h3] at H ⊢
      unfold m_sw
      by_cases h4 : p1 = 2
      · rw [if_pos h4] at H ⊢
        refine g_go 1 md_221 (i1 := 12) rfl ?_
        refine g_getf (n_q md_221 rfl) t_199 rfl ?_
        cases H
        exact n_iret (n_q md_221 rfl) (Or.inl rfl)
      · rw [if_neg h4] at H ⊢
        unfold m_sw
        by_cases h5 : p1 = 3
        · rw [if_pos h5] at H ⊢
          refine g_go 1 md_221 (i1 := 15) rfl ?_
          refine g_getf (n_q md_221 rfl) t_199 rfl ?_
          cases H
          exact n_iret (n_q md_221 rfl) (Or.inl rfl)
        · rw [if_neg h5] at H ⊢
          unfold m_sw
          by_cases h6 : p1 = 4
          · rw [if_pos h6] at H ⊢
            refine g_go 1 md_221 (i1 := 18) rfl ?_
            refine g_getf (n_q md_221 rfl) t_199 rfl ?_
            cases H
            exact n_iret (n_q md_221 rfl) (Or.inl rfl)
          · rw [if_neg h6] at H ⊢
            unfold m_sw
            by_cases h7 : p1 = 5
            · rw [if_pos h7] at H ⊢
              refine g_go 1 md_221 (i1 := 21) rfl ?_
              refine g_getf (n_q md_221 rfl) t_199 rfl ?_
              cases H
              exact n_iret (n_q md_221 rfl) (Or.inl rfl)
            · rw [if_neg h7] at H ⊢
              unfold m_sw
              by_cases h8 : p1 = 6
              · rw [if_pos h8] at H ⊢
                refine g_go 1 md_221 (i1 := 24) rfl ?_
                refine g_getf (n_q md_221 rfl) t_199 rfl ?_
                cases H
                exact n_iret (n_q md_221 rfl) (Or.inl rfl)
              · rw [if_neg h8] at H ⊢
                unfold m_sw
                by_cases h9 : p1 = 7
                · rw [if_pos h9] at H ⊢
                  refine g_go 1 md_221 (i1 := 27) rfl ?_
                  refine g_getf (n_q md_221 rfl) t_199 rfl ?_
                  cases H
                  exact n_iret (n_q md_221 rfl) (Or.inl rfl)
                · rw [if_neg h9] at H ⊢
                  unfold m_sw
                  refine g_go 1 md_221 (i1 := 30) rfl ?_
                  cases H
                  exact n_iret (n_q md_221 rfl) (Or.inl rfl)

theorem md_222 : m_md 222 = m_L_law := rfl
noncomputable def f222 (s : g_S) (p1 : Int32) : Option ((Int32 × Nat) × g_S) := (g_wb (f79 s p1) (fun v1 s2 => g_let (g_w s2 564 0 v1) fun s3 => some (((0, 0), s3))) (fun ee ss => if ee = 0 then some ((1, 1), ss) else none))
theorem C222 {d ex : Nat} {s : g_S} {p1 : Int32}  {z : (Int32 × Nat) × g_S} (hd : 85 < d) (H : f222 s p1 = some z) : n_C X d 222 [.ref 0, .int p1, .ref 564] (g_M s ex) (g_rW z ex) := by
  obtain ⟨d, rfl⟩ : ∃ d1, d = d1 + 1 := ⟨d - 1, by omega⟩
  replace hd := Nat.le_of_lt_succ hd
  refine ⟨Nat.le_of_ble_eq_true rfl, ?_⟩
  rw [md_222]
  show n_R X (d + 1) 222 0 [some (.ref 0), some (.int p1), some (.ref 564), none] [] (g_M s ex) _
  unfold f222 at H
  refine g_go 4 md_222 (i1 := 4) rfl ?_
  rcases g_wbp H with ⟨v1, s2, hv1, H⟩ | ⟨v1, s2, hv1, H⟩
  rotate_left
  · all_goals skip
    by_cases c0 : v1 = 0
    · subst c0
      cases H
      refine n_callx (z := .inl none) (n_q md_222 rfl) (As := [.ref 0, .int p1]) (rest := [.int 0, .ref 564]) rfl rfl (Nat.le_of_ble_eq_true rfl) rfl (g_recv (b := 0) rfl t_0 rfl) (C79 (by omega) hv1) rfl
    rw [if_neg c0] at H
    cases H
  refine n_callv (n_q md_222 rfl) (As := [.ref 0, .int p1]) (rest := [.int 0, .ref 564]) rfl rfl (Nat.le_of_ble_eq_true rfl) rfl (g_recv (b := 0) rfl t_0 rfl) (C79 (by omega) hv1) ?_
  refine g_go 1 md_222 (i1 := 6) rfl ?_
  obtain ⟨s3, es3, H⟩ := g_letp H
  refine g_last (n_q md_222 rfl) rfl es3 ?_
  refine g_go 2 md_222 (i1 := 12) rfl ?_
  cases H
  exact n_iret (n_q md_222 rfl) (Or.inl rfl)

theorem md_223 : m_md 223 = m_L_force := rfl
noncomputable def f223 (s : g_S) (p1 : Int32) : Option ((Int32 × Nat) × g_S) := (g_wb (f81 s p1) (fun v1 s2 => g_let (g_w s2 564 0 v1) fun s3 => some (((0, 0), s3))) (fun ee ss => if ee = 0 then some ((1, 1), ss) else none))
theorem C223 {d ex : Nat} {s : g_S} {p1 : Int32}  {z : (Int32 × Nat) × g_S} (hd : 15 < d) (H : f223 s p1 = some z) : n_C X d 223 [.ref 0, .int p1, .ref 564] (g_M s ex) (g_rW z ex) := by
  obtain ⟨d, rfl⟩ : ∃ d1, d = d1 + 1 := ⟨d - 1, by omega⟩
  replace hd := Nat.le_of_lt_succ hd
  refine ⟨Nat.le_of_ble_eq_true rfl, ?_⟩
  rw [md_223]
  show n_R X (d + 1) 223 0 [some (.ref 0), some (.int p1), some (.ref 564), none] [] (g_M s ex) _
  unfold f223 at H
  refine g_go 4 md_223 (i1 := 4) rfl ?_
  rcases g_wbp H with ⟨v1, s2, hv1, H⟩ | ⟨v1, s2, hv1, H⟩
  rotate_left
  · all_goals skip
    by_cases c0 : v1 = 0
    · subst c0
      cases H
      refine n_callx (z := .inl none) (n_q md_223 rfl) (As := [.ref 0, .int p1]) (rest := [.int 0, .ref 564]) rfl rfl (Nat.le_of_ble_eq_true rfl) rfl (g_recv (b := 0) rfl t_0 rfl) (C81 (by omega) hv1) rfl
    rw [if_neg c0] at H
    cases H
  refine n_callv (n_q md_223 rfl) (As := [.ref 0, .int p1]) (rest := [.int 0, .ref 564]) rfl rfl (Nat.le_of_ble_eq_true rfl) rfl (g_recv (b := 0) rfl t_0 rfl) (C81 (by omega) hv1) ?_
  refine g_go 1 md_223 (i1 := 6) rfl ?_
  obtain ⟨s3, es3, H⟩ := g_letp H
  refine g_last (n_q md_223 rfl) rfl es3 ?_
  refine g_go 2 md_223 (i1 := 12) rfl ?_
  cases H
  exact n_iret (n_q md_223 rfl) (Or.inl rfl)

theorem md_224 : m_md 224 = m_L_words := rfl
noncomputable def f224 (s : g_S) (p1 : Int32) (p2 : Int32) (p3 : Int32) (p4 : Int32) (p5 : Int32) (p6 : Int32) : Option ((Int32 × Nat) × g_S) := (g_wb (f82 s p1 p2 p3 p4 p5 p6) (fun v1 s2 => g_let (g_w s2 564 0 v1) fun s3 => some (((0, 0), s3))) (fun ee ss => if ee = 0 then some ((1, 1), ss) else none))
theorem C224 {d ex : Nat} {s : g_S} {p1 : Int32} {p2 : Int32} {p3 : Int32} {p4 : Int32} {p5 : Int32} {p6 : Int32}  {z : (Int32 × Nat) × g_S} (hd : 16 < d) (H : f224 s p1 p2 p3 p4 p5 p6 = some z) : n_C X d 224 [.ref 0, .int p1, .int p2, .int p3, .int p4, .int p5, .int p6, .ref 564] (g_M s ex) (g_rW z ex) := by
  obtain ⟨d, rfl⟩ : ∃ d1, d = d1 + 1 := ⟨d - 1, by omega⟩
  replace hd := Nat.le_of_lt_succ hd
  refine ⟨Nat.le_of_ble_eq_true rfl, ?_⟩
  rw [md_224]
  show n_R X (d + 1) 224 0 [some (.ref 0), some (.int p1), some (.int p2), some (.int p3), some (.int p4), some (.int p5), some (.int p6), some (.ref 564), none] [] (g_M s ex) _
  unfold f224 at H
  refine g_go 9 md_224 (i1 := 9) rfl ?_
  rcases g_wbp H with ⟨v1, s2, hv1, H⟩ | ⟨v1, s2, hv1, H⟩
  rotate_left
  · all_goals skip
    by_cases c0 : v1 = 0
    · subst c0
      cases H
      refine n_callx (z := .inl none) (n_q md_224 rfl) (As := [.ref 0, .int p1, .int p2, .int p3, .int p4, .int p5, .int p6]) (rest := [.int 0, .ref 564]) rfl rfl (Nat.le_of_ble_eq_true rfl) rfl (g_recv (b := 0) rfl t_0 rfl) (C82 (by omega) hv1) rfl
    rw [if_neg c0] at H
    cases H
  refine n_callv (n_q md_224 rfl) (As := [.ref 0, .int p1, .int p2, .int p3, .int p4, .int p5, .int p6]) (rest := [.int 0, .ref 564]) rfl rfl (Nat.le_of_ble_eq_true rfl) rfl (g_recv (b := 0) rfl t_0 rfl) (C82 (by omega) hv1) ?_
  refine g_go 1 md_224 (i1 := 11) rfl ?_
  obtain ⟨s3, es3, H⟩ := g_letp H
  refine g_last (n_q md_224 rfl) rfl es3 ?_
  refine g_go 2 md_224 (i1 := 17) rfl ?_
  cases H
  exact n_iret (n_q md_224 rfl) (Or.inl rfl)

theorem md_225 : m_md 225 = m_L_lets := rfl
noncomputable def f225_11 (s : g_S) (p1 : Int32) (p2 : Int32) (p3 : Int32) (y2 : Int32) : Option ((Int32 × Nat) × g_S) := (g_let (g_w s 564 0 y2) fun s1 => some (((0, 0), s1)))
theorem P225_11 {d ex : Nat} {s : g_S} {p1 : Int32} {p2 : Int32} {p3 : Int32} {y2 : Int32} {u5 : Option Value}   {z : ((Int32 × Nat) × g_S)} (H : f225_11 s p1 p2 p3 y2 = some z) (hd : 15 ≤ d)  : n_R X (d + 1) 225 11 [some (.ref 0), some (.int p1), some (.int p2), some (.int p3), some (.ref 564), u5] [.long y2.toInt64, .int 0, .ref 564] (g_M s ex) (g_rW z ex) := by
  unfold f225_11 at H
  obtain ⟨s1, es1, H⟩ := g_letp H
  refine g_last (n_q md_225 rfl) rfl es1 ?_
  refine g_go 2 md_225 (i1 := 17) rfl ?_
  cases H
  exact n_iret (n_q md_225 rfl) (Or.inl rfl)
noncomputable def f225 (s : g_S) (p1 : Int32) (p2 : Int32) (p3 : Int32) : Option ((Int32 × Nat) × g_S) := (g_wb (f83 s p1 p2 p3) (fun v1 s2 => if v1 = 0 then (f225_11 s2 p1 p2 p3 0) else (f225_11 s2 p1 p2 p3 1)) (fun ee ss => if ee = 0 then some ((1, 1), ss) else none))
theorem C225 {d ex : Nat} {s : g_S} {p1 : Int32} {p2 : Int32} {p3 : Int32}  {z : (Int32 × Nat) × g_S} (hd : 15 < d) (H : f225 s p1 p2 p3 = some z) : n_C X d 225 [.ref 0, .int p1, .int p2, .int p3, .ref 564] (g_M s ex) (g_rW z ex) := by
  obtain ⟨d, rfl⟩ : ∃ d1, d = d1 + 1 := ⟨d - 1, by omega⟩
  replace hd := Nat.le_of_lt_succ hd
  refine ⟨Nat.le_of_ble_eq_true rfl, ?_⟩
  rw [md_225]
  show n_R X (d + 1) 225 0 [some (.ref 0), some (.int p1), some (.int p2), some (.int p3), some (.ref 564), none] [] (g_M s ex) _
  unfold f225 at H
  refine g_go 6 md_225 (i1 := 6) rfl ?_
  rcases g_wbp H with ⟨v1, s2, hv1, H⟩ | ⟨v1, s2, hv1, H⟩
  rotate_left
  · all_goals skip
    by_cases c0 : v1 = 0
    · subst c0
      cases H
      refine n_callx (z := .inl none) (n_q md_225 rfl) (As := [.ref 0, .int p1, .int p2, .int p3]) (rest := [.int 0, .ref 564]) rfl rfl (Nat.le_of_ble_eq_true rfl) rfl (g_recv (b := 0) rfl t_0 rfl) (C83 (by omega) hv1) rfl
    rw [if_neg c0] at H
    cases H
  refine n_callv (n_q md_225 rfl) (As := [.ref 0, .int p1, .int p2, .int p3]) (rest := [.int 0, .ref 564]) rfl rfl (Nat.le_of_ble_eq_true rfl) rfl (g_recv (b := 0) rfl t_0 rfl) (C83 (by omega) hv1) ?_
  by_cases h3 : v1 = 0
  · rw [if_pos h3] at H
    refine n_ifT (n_q md_225 rfl) (decide_eq_true h3) ?_
    refine g_go 1 md_225 (i1 := 11) rfl ?_
    exact P225_11 H hd
  · rw [if_neg h3] at H
    refine n_ifF (n_q md_225 rfl) (fun e1 => h3 (of_decide_eq_true e1)) ?_
    refine g_go 2 md_225 (i1 := 11) rfl ?_
    exact P225_11 H hd

theorem md_226 : m_md 226 = m_L_pass := rfl
noncomputable def f226 (s : g_S) (p1 : Int32) (p2 : Int32) (p3 : Int32) (p4 : Int32) (p5 : Int32) : Option ((Int32 × Nat) × g_S) := (g_wb (f84 s p1 p2 p3 p4 p5) (fun v1 s2 => g_let (g_w s2 564 0 v1) fun s3 => some (((0, 0), s3))) (fun ee ss => if ee = 0 then some ((1, 1), ss) else none))
theorem C226 {d ex : Nat} {s : g_S} {p1 : Int32} {p2 : Int32} {p3 : Int32} {p4 : Int32} {p5 : Int32}  {z : (Int32 × Nat) × g_S} (hd : 14 < d) (H : f226 s p1 p2 p3 p4 p5 = some z) : n_C X d 226 [.ref 0, .int p1, .int p2, .int p3, .int p4, .int p5, .ref 564] (g_M s ex) (g_rW z ex) := by
  obtain ⟨d, rfl⟩ : ∃ d1, d = d1 + 1 := ⟨d - 1, by omega⟩
  replace hd := Nat.le_of_lt_succ hd
  refine ⟨Nat.le_of_ble_eq_true rfl, ?_⟩
  rw [md_226]
  show n_R X (d + 1) 226 0 [some (.ref 0), some (.int p1), some (.int p2), some (.int p3), some (.int p4), some (.int p5), some (.ref 564), none] [] (g_M s ex) _
  unfold f226 at H
  refine g_go 8 md_226 (i1 := 8) rfl ?_
  rcases g_wbp H with ⟨v1, s2, hv1, H⟩ | ⟨v1, s2, hv1, H⟩
  rotate_left
  · all_goals skip
    by_cases c0 : v1 = 0
    · subst c0
      cases H
      refine n_callx (z := .inl none) (n_q md_226 rfl) (As := [.ref 0, .int p1, .int p2, .int p3, .int p4, .int p5]) (rest := [.int 0, .ref 564]) rfl rfl (Nat.le_of_ble_eq_true rfl) rfl (g_recv (b := 0) rfl t_0 rfl) (C84 (by omega) hv1) rfl
    rw [if_neg c0] at H
    cases H
  refine n_callv (n_q md_226 rfl) (As := [.ref 0, .int p1, .int p2, .int p3, .int p4, .int p5]) (rest := [.int 0, .ref 564]) rfl rfl (Nat.le_of_ble_eq_true rfl) rfl (g_recv (b := 0) rfl t_0 rfl) (C84 (by omega) hv1) ?_
  refine g_go 1 md_226 (i1 := 10) rfl ?_
  obtain ⟨s3, es3, H⟩ := g_letp H
  refine g_last (n_q md_226 rfl) rfl es3 ?_
  refine g_go 2 md_226 (i1 := 16) rfl ?_
  cases H
  exact n_iret (n_q md_226 rfl) (Or.inl rfl)

theorem md_227 : m_md 227 = m_L_hand := rfl
noncomputable def f227 (s : g_S) (p1 : Int32) (p2 : Int32) : Option ((Int32 × Nat) × g_S) := (g_wb (f85 s p1 p2) (fun v1 s2 => g_let (g_w s2 564 0 v1) fun s3 => some (((0, 0), s3))) (fun ee ss => if ee = 1 then some ((1, 1), ss) else if ee = 0 then some ((2, 1), ss) else none))
theorem C227 {d ex : Nat} {s : g_S} {p1 : Int32} {p2 : Int32}  {z : (Int32 × Nat) × g_S} (hd : 15 < d) (H : f227 s p1 p2 = some z) : n_C X d 227 [.ref 0, .int p1, .int p2, .ref 564] (g_M s ex) (g_rW z ex) := by
  obtain ⟨d, rfl⟩ : ∃ d1, d = d1 + 1 := ⟨d - 1, by omega⟩
  replace hd := Nat.le_of_lt_succ hd
  refine ⟨Nat.le_of_ble_eq_true rfl, ?_⟩
  rw [md_227]
  show n_R X (d + 1) 227 0 [some (.ref 0), some (.int p1), some (.int p2), some (.ref 564), none] [] (g_M s ex) _
  unfold f227 at H
  refine g_go 5 md_227 (i1 := 5) rfl ?_
  rcases g_wbp H with ⟨v1, s2, hv1, H⟩ | ⟨v1, s2, hv1, H⟩
  rotate_left
  · all_goals skip
    by_cases c0 : v1 = 1
    · subst c0
      cases H
      refine n_callx (z := .inl none) (n_q md_227 rfl) (As := [.ref 0, .int p1, .int p2]) (rest := [.int 0, .ref 564]) rfl rfl (Nat.le_of_ble_eq_true rfl) rfl (g_recv (b := 0) rfl t_0 rfl) (C85 (by omega) hv1) rfl
    rw [if_neg c0] at H
    by_cases c1 : v1 = 0
    · subst c1
      cases H
      refine n_callx (z := .inl none) (n_q md_227 rfl) (As := [.ref 0, .int p1, .int p2]) (rest := [.int 0, .ref 564]) rfl rfl (Nat.le_of_ble_eq_true rfl) rfl (g_recv (b := 0) rfl t_0 rfl) (C85 (by omega) hv1) rfl
    rw [if_neg c1] at H
    cases H
  refine n_callv (n_q md_227 rfl) (As := [.ref 0, .int p1, .int p2]) (rest := [.int 0, .ref 564]) rfl rfl (Nat.le_of_ble_eq_true rfl) rfl (g_recv (b := 0) rfl t_0 rfl) (C85 (by omega) hv1) ?_
  refine g_go 1 md_227 (i1 := 7) rfl ?_
  obtain ⟨s3, es3, H⟩ := g_letp H
  refine g_last (n_q md_227 rfl) rfl es3 ?_
  refine g_go 2 md_227 (i1 := 16) rfl ?_
  cases H
  exact n_iret (n_q md_227 rfl) (Or.inl rfl)

theorem md_228 : m_md 228 = m_L_value := rfl
noncomputable def f228 (s : g_S) (p1 : Int32) : Option ((Int32 × Nat) × g_S) := (g_wb (f86 s p1) (fun v1 s2 => g_let (g_w s2 564 0 v1) fun s3 => some (((0, 0), s3))) (fun ee ss => if ee = 0 then some ((1, 1), ss) else none))
theorem C228 {d ex : Nat} {s : g_S} {p1 : Int32}  {z : (Int32 × Nat) × g_S} (hd : 14 < d) (H : f228 s p1 = some z) : n_C X d 228 [.ref 0, .int p1, .ref 564] (g_M s ex) (g_rW z ex) := by
  obtain ⟨d, rfl⟩ : ∃ d1, d = d1 + 1 := ⟨d - 1, by omega⟩
  replace hd := Nat.le_of_lt_succ hd
  refine ⟨Nat.le_of_ble_eq_true rfl, ?_⟩
  rw [md_228]
  show n_R X (d + 1) 228 0 [some (.ref 0), some (.int p1), some (.ref 564), none] [] (g_M s ex) _
  unfold f228 at H
  refine g_go 4 md_228 (i1 := 4) rfl ?_
  rcases g_wbp H with ⟨v1, s2, hv1, H⟩ | ⟨v1, s2, hv1, H⟩
  rotate_left
  · all_goals skip
    by_cases c0 : v1 = 0
    · subst c0
      cases H
      refine n_callx (z := .inl none) (n_q md_228 rfl) (As := [.ref 0, .int p1]) (rest := [.int 0, .ref 564]) rfl rfl (Nat.le_of_ble_eq_true rfl) rfl (g_recv (b := 0) rfl t_0 rfl) (C86 (by omega) hv1) rfl
    rw [if_neg c0] at H
    cases H
  refine n_callv (n_q md_228 rfl) (As := [.ref 0, .int p1]) (rest := [.int 0, .ref 564]) rfl rfl (Nat.le_of_ble_eq_true rfl) rfl (g_recv (b := 0) rfl t_0 rfl) (C86 (by omega) hv1) ?_
  refine g_go 1 md_228 (i1 := 6) rfl ?_
  obtain ⟨s3, es3, H⟩ := g_letp H
  refine g_last (n_q md_228 rfl) rfl es3 ?_
  refine g_go 2 md_228 (i1 := 12) rfl ?_
  cases H
  exact n_iret (n_q md_228 rfl) (Or.inl rfl)

theorem md_229 : m_md 229 = m_L_purse := rfl
noncomputable def f229 (s : g_S) (p1 : Int32) (p2 : Int32) : Option ((Int32 × Nat) × g_S) := (g_wb (f87 s p1 p2) (fun v1 s2 => g_let (g_w s2 564 0 v1) fun s3 => some (((0, 0), s3))) (fun ee ss => if ee = 1 then some ((1, 1), ss) else if ee = 0 then some ((2, 1), ss) else none))
theorem C229 {d ex : Nat} {s : g_S} {p1 : Int32} {p2 : Int32}  {z : (Int32 × Nat) × g_S} (hd : 15 < d) (H : f229 s p1 p2 = some z) : n_C X d 229 [.ref 0, .int p1, .int p2, .ref 564] (g_M s ex) (g_rW z ex) := by
  obtain ⟨d, rfl⟩ : ∃ d1, d = d1 + 1 := ⟨d - 1, by omega⟩
  replace hd := Nat.le_of_lt_succ hd
  refine ⟨Nat.le_of_ble_eq_true rfl, ?_⟩
  rw [md_229]
  show n_R X (d + 1) 229 0 [some (.ref 0), some (.int p1), some (.int p2), some (.ref 564), none] [] (g_M s ex) _
  unfold f229 at H
  refine g_go 5 md_229 (i1 := 5) rfl ?_
  rcases g_wbp H with ⟨v1, s2, hv1, H⟩ | ⟨v1, s2, hv1, H⟩
  rotate_left
  · all_goals skip
    by_cases c0 : v1 = 1
    · subst c0
      cases H
      refine n_callx (z := .inl none) (n_q md_229 rfl) (As := [.ref 0, .int p1, .int p2]) (rest := [.int 0, .ref 564]) rfl rfl (Nat.le_of_ble_eq_true rfl) rfl (g_recv (b := 0) rfl t_0 rfl) (C87 (by omega) hv1) rfl
    rw [if_neg c0] at H
    by_cases c1 : v1 = 0
    · subst c1
      cases H
      refine n_callx (z := .inl none) (n_q md_229 rfl) (As := [.ref 0, .int p1, .int p2]) (rest := [.int 0, .ref 564]) rfl rfl (Nat.le_of_ble_eq_true rfl) rfl (g_recv (b := 0) rfl t_0 rfl) (C87 (by omega) hv1) rfl
    rw [if_neg c1] at H
    cases H
  refine n_callv (n_q md_229 rfl) (As := [.ref 0, .int p1, .int p2]) (rest := [.int 0, .ref 564]) rfl rfl (Nat.le_of_ble_eq_true rfl) rfl (g_recv (b := 0) rfl t_0 rfl) (C87 (by omega) hv1) ?_
  refine g_go 1 md_229 (i1 := 7) rfl ?_
  obtain ⟨s3, es3, H⟩ := g_letp H
  refine g_last (n_q md_229 rfl) rfl es3 ?_
  refine g_go 2 md_229 (i1 := 16) rfl ?_
  cases H
  exact n_iret (n_q md_229 rfl) (Or.inl rfl)

theorem md_230 : m_md 230 = m_L_fact := rfl
noncomputable def f230_11 (s : g_S) (p1 : Int32) (p2 : Int32) (p3 : Int32) (y2 : Int32) : Option ((Int32 × Nat) × g_S) := (g_let (g_w s 564 0 y2) fun s1 => some (((0, 0), s1)))
theorem P230_11 {d ex : Nat} {s : g_S} {p1 : Int32} {p2 : Int32} {p3 : Int32} {y2 : Int32} {u5 : Option Value}   {z : ((Int32 × Nat) × g_S)} (H : f230_11 s p1 p2 p3 y2 = some z) (hd : 15 ≤ d)  : n_R X (d + 1) 230 11 [some (.ref 0), some (.int p1), some (.int p2), some (.int p3), some (.ref 564), u5] [.long y2.toInt64, .int 0, .ref 564] (g_M s ex) (g_rW z ex) := by
  unfold f230_11 at H
  obtain ⟨s1, es1, H⟩ := g_letp H
  refine g_last (n_q md_230 rfl) rfl es1 ?_
  refine g_go 2 md_230 (i1 := 20) rfl ?_
  cases H
  exact n_iret (n_q md_230 rfl) (Or.inl rfl)
noncomputable def f230 (s : g_S) (p1 : Int32) (p2 : Int32) (p3 : Int32) : Option ((Int32 × Nat) × g_S) := (g_wb (f88 s p1 p2 p3) (fun v1 s2 => if v1 = 0 then (f230_11 s2 p1 p2 p3 0) else (f230_11 s2 p1 p2 p3 1)) (fun ee ss => if ee = 1 then some ((1, 1), ss) else if ee = 0 then some ((2, 1), ss) else none))
theorem C230 {d ex : Nat} {s : g_S} {p1 : Int32} {p2 : Int32} {p3 : Int32}  {z : (Int32 × Nat) × g_S} (hd : 15 < d) (H : f230 s p1 p2 p3 = some z) : n_C X d 230 [.ref 0, .int p1, .int p2, .int p3, .ref 564] (g_M s ex) (g_rW z ex) := by
  obtain ⟨d, rfl⟩ : ∃ d1, d = d1 + 1 := ⟨d - 1, by omega⟩
  replace hd := Nat.le_of_lt_succ hd
  refine ⟨Nat.le_of_ble_eq_true rfl, ?_⟩
  rw [md_230]
  show n_R X (d + 1) 230 0 [some (.ref 0), some (.int p1), some (.int p2), some (.int p3), some (.ref 564), none] [] (g_M s ex) _
  unfold f230 at H
  refine g_go 6 md_230 (i1 := 6) rfl ?_
  rcases g_wbp H with ⟨v1, s2, hv1, H⟩ | ⟨v1, s2, hv1, H⟩
  rotate_left
  · all_goals skip
    by_cases c0 : v1 = 1
    · subst c0
      cases H
      refine n_callx (z := .inl none) (n_q md_230 rfl) (As := [.ref 0, .int p1, .int p2, .int p3]) (rest := [.int 0, .ref 564]) rfl rfl (Nat.le_of_ble_eq_true rfl) rfl (g_recv (b := 0) rfl t_0 rfl) (C88 (by omega) hv1) rfl
    rw [if_neg c0] at H
    by_cases c1 : v1 = 0
    · subst c1
      cases H
      refine n_callx (z := .inl none) (n_q md_230 rfl) (As := [.ref 0, .int p1, .int p2, .int p3]) (rest := [.int 0, .ref 564]) rfl rfl (Nat.le_of_ble_eq_true rfl) rfl (g_recv (b := 0) rfl t_0 rfl) (C88 (by omega) hv1) rfl
    rw [if_neg c1] at H
    cases H
  refine n_callv (n_q md_230 rfl) (As := [.ref 0, .int p1, .int p2, .int p3]) (rest := [.int 0, .ref 564]) rfl rfl (Nat.le_of_ble_eq_true rfl) rfl (g_recv (b := 0) rfl t_0 rfl) (C88 (by omega) hv1) ?_
  by_cases h3 : v1 = 0
  · rw [if_pos h3] at H
    refine n_ifT (n_q md_230 rfl) (decide_eq_true h3) ?_
    refine g_go 1 md_230 (i1 := 11) rfl ?_
    exact P230_11 H hd
  · rw [if_neg h3] at H
    refine n_ifF (n_q md_230 rfl) (fun e1 => h3 (of_decide_eq_true e1)) ?_
    refine g_go 2 md_230 (i1 := 11) rfl ?_
    exact P230_11 H hd

theorem md_231 : m_md 231 = m_L_harm := rfl
noncomputable def f231 (s : g_S) (p1 : Int32) (p2 : Int32) : Option ((Int32 × Nat) × g_S) := (g_wb (f89 s p1 p2) (fun v1 s2 => g_let (g_w s2 564 0 v1) fun s3 => some (((0, 0), s3))) (fun ee ss => if ee = 0 then some ((1, 1), ss) else none))
theorem C231 {d ex : Nat} {s : g_S} {p1 : Int32} {p2 : Int32}  {z : (Int32 × Nat) × g_S} (hd : 14 < d) (H : f231 s p1 p2 = some z) : n_C X d 231 [.ref 0, .int p1, .int p2, .ref 564] (g_M s ex) (g_rW z ex) := by
  obtain ⟨d, rfl⟩ : ∃ d1, d = d1 + 1 := ⟨d - 1, by omega⟩
  replace hd := Nat.le_of_lt_succ hd
  refine ⟨Nat.le_of_ble_eq_true rfl, ?_⟩
  rw [md_231]
  show n_R X (d + 1) 231 0 [some (.ref 0), some (.int p1), some (.int p2), some (.ref 564), none] [] (g_M s ex) _
  unfold f231 at H
  refine g_go 5 md_231 (i1 := 5) rfl ?_
  rcases g_wbp H with ⟨v1, s2, hv1, H⟩ | ⟨v1, s2, hv1, H⟩
  rotate_left
  · all_goals skip
    by_cases c0 : v1 = 0
    · subst c0
      cases H
      refine n_callx (z := .inl none) (n_q md_231 rfl) (As := [.ref 0, .int p1, .int p2]) (rest := [.int 0, .ref 564]) rfl rfl (Nat.le_of_ble_eq_true rfl) rfl (g_recv (b := 0) rfl t_0 rfl) (C89 (by omega) hv1) rfl
    rw [if_neg c0] at H
    cases H
  refine n_callv (n_q md_231 rfl) (As := [.ref 0, .int p1, .int p2]) (rest := [.int 0, .ref 564]) rfl rfl (Nat.le_of_ble_eq_true rfl) rfl (g_recv (b := 0) rfl t_0 rfl) (C89 (by omega) hv1) ?_
  refine g_go 1 md_231 (i1 := 7) rfl ?_
  obtain ⟨s3, es3, H⟩ := g_letp H
  refine g_last (n_q md_231 rfl) rfl es3 ?_
  refine g_go 2 md_231 (i1 := 13) rfl ?_
  cases H
  exact n_iret (n_q md_231 rfl) (Or.inl rfl)

theorem md_232 : m_md 232 = m_L_name := rfl
noncomputable def f232 (s : g_S) (p1 : Int32) (p2 : Int32) : Option ((Int32 × Nat) × g_S) := (g_wb (f91 s p1 p2) (fun v1 s2 => g_let (g_w s2 564 0 v1) fun s3 => some (((0, 0), s3))) (fun ee ss => if ee = 1 then some ((1, 1), ss) else if ee = 0 then some ((2, 1), ss) else none))
theorem C232 {d ex : Nat} {s : g_S} {p1 : Int32} {p2 : Int32}  {z : (Int32 × Nat) × g_S} (hd : 16 < d) (H : f232 s p1 p2 = some z) : n_C X d 232 [.ref 0, .int p1, .int p2, .ref 564] (g_M s ex) (g_rW z ex) := by
  obtain ⟨d, rfl⟩ : ∃ d1, d = d1 + 1 := ⟨d - 1, by omega⟩
  replace hd := Nat.le_of_lt_succ hd
  refine ⟨Nat.le_of_ble_eq_true rfl, ?_⟩
  rw [md_232]
  show n_R X (d + 1) 232 0 [some (.ref 0), some (.int p1), some (.int p2), some (.ref 564), none] [] (g_M s ex) _
  unfold f232 at H
  refine g_go 5 md_232 (i1 := 5) rfl ?_
  rcases g_wbp H with ⟨v1, s2, hv1, H⟩ | ⟨v1, s2, hv1, H⟩
  rotate_left
  · all_goals skip
    by_cases c0 : v1 = 1
    · subst c0
      cases H
      refine n_callx (z := .inl none) (n_q md_232 rfl) (As := [.ref 0, .int p1, .int p2]) (rest := [.int 0, .ref 564]) rfl rfl (Nat.le_of_ble_eq_true rfl) rfl (g_recv (b := 0) rfl t_0 rfl) (C91 (by omega) hv1) rfl
    rw [if_neg c0] at H
    by_cases c1 : v1 = 0
    · subst c1
      cases H
      refine n_callx (z := .inl none) (n_q md_232 rfl) (As := [.ref 0, .int p1, .int p2]) (rest := [.int 0, .ref 564]) rfl rfl (Nat.le_of_ble_eq_true rfl) rfl (g_recv (b := 0) rfl t_0 rfl) (C91 (by omega) hv1) rfl
    rw [if_neg c1] at H
    cases H
  refine n_callv (n_q md_232 rfl) (As := [.ref 0, .int p1, .int p2]) (rest := [.int 0, .ref 564]) rfl rfl (Nat.le_of_ble_eq_true rfl) rfl (g_recv (b := 0) rfl t_0 rfl) (C91 (by omega) hv1) ?_
  refine g_go 1 md_232 (i1 := 7) rfl ?_
  obtain ⟨s3, es3, H⟩ := g_letp H
  refine g_last (n_q md_232 rfl) rfl es3 ?_
  refine g_go 2 md_232 (i1 := 16) rfl ?_
  cases H
  exact n_iret (n_q md_232 rfl) (Or.inl rfl)

theorem md_233 : m_md 233 = m_L_claim := rfl
noncomputable def f233 (s : g_S) (p1 : Int32) : Option ((Int32 × Nat) × g_S) := (g_wb (f92 s p1) (fun v1 s2 => g_let (g_w s2 564 0 v1) fun s3 => some (((0, 0), s3))) (fun ee ss => if ee = 1 then some ((1, 1), ss) else none))
theorem C233 {d ex : Nat} {s : g_S} {p1 : Int32}  {z : (Int32 × Nat) × g_S} (hd : 18 < d) (H : f233 s p1 = some z) : n_C X d 233 [.ref 0, .int p1, .ref 564] (g_M s ex) (g_rW z ex) := by
  obtain ⟨d, rfl⟩ : ∃ d1, d = d1 + 1 := ⟨d - 1, by omega⟩
  replace hd := Nat.le_of_lt_succ hd
  refine ⟨Nat.le_of_ble_eq_true rfl, ?_⟩
  rw [md_233]
  show n_R X (d + 1) 233 0 [some (.ref 0), some (.int p1), some (.ref 564), none] [] (g_M s ex) _
  unfold f233 at H
  refine g_go 4 md_233 (i1 := 4) rfl ?_
  rcases g_wbp H with ⟨v1, s2, hv1, H⟩ | ⟨v1, s2, hv1, H⟩
  rotate_left
  · all_goals skip
    by_cases c0 : v1 = 1
    · subst c0
      cases H
      refine n_callx (z := .inl none) (n_q md_233 rfl) (As := [.ref 0, .int p1]) (rest := [.int 0, .ref 564]) rfl rfl (Nat.le_of_ble_eq_true rfl) rfl (g_recv (b := 0) rfl t_0 rfl) (C92 (by omega) hv1) rfl
    rw [if_neg c0] at H
    cases H
  refine n_callv (n_q md_233 rfl) (As := [.ref 0, .int p1]) (rest := [.int 0, .ref 564]) rfl rfl (Nat.le_of_ble_eq_true rfl) rfl (g_recv (b := 0) rfl t_0 rfl) (C92 (by omega) hv1) ?_
  refine g_go 1 md_233 (i1 := 6) rfl ?_
  obtain ⟨s3, es3, H⟩ := g_letp H
  refine g_last (n_q md_233 rfl) rfl es3 ?_
  refine g_go 2 md_233 (i1 := 12) rfl ?_
  cases H
  exact n_iret (n_q md_233 rfl) (Or.inl rfl)

theorem md_234 : m_md 234 = m_L_whom := rfl
noncomputable def f234 (s : g_S) (p1 : Int32) : Option ((Int32 × Nat) × g_S) := (g_wb (f93 s p1) (fun v1 s2 => g_let (g_w s2 564 0 v1) fun s3 => some (((0, 0), s3))) (fun ee ss => if ee = 1 then some ((1, 1), ss) else none))
theorem C234 {d ex : Nat} {s : g_S} {p1 : Int32}  {z : (Int32 × Nat) × g_S} (hd : 18 < d) (H : f234 s p1 = some z) : n_C X d 234 [.ref 0, .int p1, .ref 564] (g_M s ex) (g_rW z ex) := by
  obtain ⟨d, rfl⟩ : ∃ d1, d = d1 + 1 := ⟨d - 1, by omega⟩
  replace hd := Nat.le_of_lt_succ hd
  refine ⟨Nat.le_of_ble_eq_true rfl, ?_⟩
  rw [md_234]
  show n_R X (d + 1) 234 0 [some (.ref 0), some (.int p1), some (.ref 564), none] [] (g_M s ex) _
  unfold f234 at H
  refine g_go 4 md_234 (i1 := 4) rfl ?_
  rcases g_wbp H with ⟨v1, s2, hv1, H⟩ | ⟨v1, s2, hv1, H⟩
  rotate_left
  · all_goals skip
    by_cases c0 : v1 = 1
    · subst c0
      cases H
      refine n_callx (z := .inl none) (n_q md_234 rfl) (As := [.ref 0, .int p1]) (rest := [.int 0, .ref 564]) rfl rfl (Nat.le_of_ble_eq_true rfl) rfl (g_recv (b := 0) rfl t_0 rfl) (C93 (by omega) hv1) rfl
    rw [if_neg c0] at H
    cases H
  refine n_callv (n_q md_234 rfl) (As := [.ref 0, .int p1]) (rest := [.int 0, .ref 564]) rfl rfl (Nat.le_of_ble_eq_true rfl) rfl (g_recv (b := 0) rfl t_0 rfl) (C93 (by omega) hv1) ?_
  refine g_go 1 md_234 (i1 := 6) rfl ?_
  obtain ⟨s3, es3, H⟩ := g_letp H
  refine g_last (n_q md_234 rfl) rfl es3 ?_
  refine g_go 2 md_234 (i1 := 12) rfl ?_
  cases H
  exact n_iret (n_q md_234 rfl) (Or.inl rfl)

theorem md_235 : m_md 235 = m_L_pays := rfl
noncomputable def f235 (s : g_S) (p1 : Int32) : Option ((Int32 × Nat) × g_S) := (g_wb (f94 s p1) (fun v1 s2 => g_let (g_w s2 564 0 v1) fun s3 => some (((0, 0), s3))) (fun ee ss => if ee = 1 then some ((1, 1), ss) else none))
theorem C235 {d ex : Nat} {s : g_S} {p1 : Int32}  {z : (Int32 × Nat) × g_S} (hd : 18 < d) (H : f235 s p1 = some z) : n_C X d 235 [.ref 0, .int p1, .ref 564] (g_M s ex) (g_rW z ex) := by
  obtain ⟨d, rfl⟩ : ∃ d1, d = d1 + 1 := ⟨d - 1, by omega⟩
  replace hd := Nat.le_of_lt_succ hd
  refine ⟨Nat.le_of_ble_eq_true rfl, ?_⟩
  rw [md_235]
  show n_R X (d + 1) 235 0 [some (.ref 0), some (.int p1), some (.ref 564), none] [] (g_M s ex) _
  unfold f235 at H
  refine g_go 4 md_235 (i1 := 4) rfl ?_
  rcases g_wbp H with ⟨v1, s2, hv1, H⟩ | ⟨v1, s2, hv1, H⟩
  rotate_left
  · all_goals skip
    by_cases c0 : v1 = 1
    · subst c0
      cases H
      refine n_callx (z := .inl none) (n_q md_235 rfl) (As := [.ref 0, .int p1]) (rest := [.int 0, .ref 564]) rfl rfl (Nat.le_of_ble_eq_true rfl) rfl (g_recv (b := 0) rfl t_0 rfl) (C94 (by omega) hv1) rfl
    rw [if_neg c0] at H
    cases H
  refine n_callv (n_q md_235 rfl) (As := [.ref 0, .int p1]) (rest := [.int 0, .ref 564]) rfl rfl (Nat.le_of_ble_eq_true rfl) rfl (g_recv (b := 0) rfl t_0 rfl) (C94 (by omega) hv1) ?_
  refine g_go 1 md_235 (i1 := 6) rfl ?_
  obtain ⟨s3, es3, H⟩ := g_letp H
  refine g_last (n_q md_235 rfl) rfl es3 ?_
  refine g_go 2 md_235 (i1 := 12) rfl ?_
  cases H
  exact n_iret (n_q md_235 rfl) (Or.inl rfl)

theorem md_236 : m_md 236 = m_L_bears := rfl
noncomputable def f236 (s : g_S) (p1 : Int32) : Option ((Int32 × Nat) × g_S) := (g_wb (f95 s p1) (fun v1 s2 => g_let (g_w s2 564 0 v1) fun s3 => some (((0, 0), s3))) (fun ee ss => if ee = 1 then some ((1, 1), ss) else none))
theorem C236 {d ex : Nat} {s : g_S} {p1 : Int32}  {z : (Int32 × Nat) × g_S} (hd : 18 < d) (H : f236 s p1 = some z) : n_C X d 236 [.ref 0, .int p1, .ref 564] (g_M s ex) (g_rW z ex) := by
  obtain ⟨d, rfl⟩ : ∃ d1, d = d1 + 1 := ⟨d - 1, by omega⟩
  replace hd := Nat.le_of_lt_succ hd
  refine ⟨Nat.le_of_ble_eq_true rfl, ?_⟩
  rw [md_236]
  show n_R X (d + 1) 236 0 [some (.ref 0), some (.int p1), some (.ref 564), none] [] (g_M s ex) _
  unfold f236 at H
  refine g_go 4 md_236 (i1 := 4) rfl ?_
  rcases g_wbp H with ⟨v1, s2, hv1, H⟩ | ⟨v1, s2, hv1, H⟩
  rotate_left
  · all_goals skip
    by_cases c0 : v1 = 1
    · subst c0
      cases H
      refine n_callx (z := .inl none) (n_q md_236 rfl) (As := [.ref 0, .int p1]) (rest := [.int 0, .ref 564]) rfl rfl (Nat.le_of_ble_eq_true rfl) rfl (g_recv (b := 0) rfl t_0 rfl) (C95 (by omega) hv1) rfl
    rw [if_neg c0] at H
    cases H
  refine n_callv (n_q md_236 rfl) (As := [.ref 0, .int p1]) (rest := [.int 0, .ref 564]) rfl rfl (Nat.le_of_ble_eq_true rfl) rfl (g_recv (b := 0) rfl t_0 rfl) (C95 (by omega) hv1) ?_
  refine g_go 1 md_236 (i1 := 6) rfl ?_
  obtain ⟨s3, es3, H⟩ := g_letp H
  refine g_last (n_q md_236 rfl) rfl es3 ?_
  refine g_go 2 md_236 (i1 := 12) rfl ?_
  cases H
  exact n_iret (n_q md_236 rfl) (Or.inl rfl)

theorem md_237 : m_md 237 = m_L_must := rfl
noncomputable def f237_9 (s : g_S) (p1 : Int32) (y2 : Int32) : Option ((Int32 × Nat) × g_S) := (g_let (g_w s 564 0 y2) fun s1 => some (((0, 0), s1)))
theorem P237_9 {d ex : Nat} {s : g_S} {p1 : Int32} {y2 : Int32} {u3 : Option Value}   {z : ((Int32 × Nat) × g_S)} (H : f237_9 s p1 y2 = some z) (hd : 18 ≤ d)  : n_R X (d + 1) 237 9 [some (.ref 0), some (.int p1), some (.ref 564), u3] [.long y2.toInt64, .int 0, .ref 564] (g_M s ex) (g_rW z ex) := by
  unfold f237_9 at H
  obtain ⟨s1, es1, H⟩ := g_letp H
  refine g_last (n_q md_237 rfl) rfl es1 ?_
  refine g_go 2 md_237 (i1 := 15) rfl ?_
  cases H
  exact n_iret (n_q md_237 rfl) (Or.inl rfl)
noncomputable def f237 (s : g_S) (p1 : Int32) : Option ((Int32 × Nat) × g_S) := (g_wb (f96 s p1) (fun v1 s2 => if v1 = 0 then (f237_9 s2 p1 0) else (f237_9 s2 p1 1)) (fun ee ss => if ee = 1 then some ((1, 1), ss) else none))
theorem C237 {d ex : Nat} {s : g_S} {p1 : Int32}  {z : (Int32 × Nat) × g_S} (hd : 18 < d) (H : f237 s p1 = some z) : n_C X d 237 [.ref 0, .int p1, .ref 564] (g_M s ex) (g_rW z ex) := by
  obtain ⟨d, rfl⟩ : ∃ d1, d = d1 + 1 := ⟨d - 1, by omega⟩
  replace hd := Nat.le_of_lt_succ hd
  refine ⟨Nat.le_of_ble_eq_true rfl, ?_⟩
  rw [md_237]
  show n_R X (d + 1) 237 0 [some (.ref 0), some (.int p1), some (.ref 564), none] [] (g_M s ex) _
  unfold f237 at H
  refine g_go 4 md_237 (i1 := 4) rfl ?_
  rcases g_wbp H with ⟨v1, s2, hv1, H⟩ | ⟨v1, s2, hv1, H⟩
  rotate_left
  · all_goals skip
    by_cases c0 : v1 = 1
    · subst c0
      cases H
      refine n_callx (z := .inl none) (n_q md_237 rfl) (As := [.ref 0, .int p1]) (rest := [.int 0, .ref 564]) rfl rfl (Nat.le_of_ble_eq_true rfl) rfl (g_recv (b := 0) rfl t_0 rfl) (C96 (by omega) hv1) rfl
    rw [if_neg c0] at H
    cases H
  refine n_callv (n_q md_237 rfl) (As := [.ref 0, .int p1]) (rest := [.int 0, .ref 564]) rfl rfl (Nat.le_of_ble_eq_true rfl) rfl (g_recv (b := 0) rfl t_0 rfl) (C96 (by omega) hv1) ?_
  by_cases h3 : v1 = 0
  · rw [if_pos h3] at H
    refine n_ifT (n_q md_237 rfl) (decide_eq_true h3) ?_
    refine g_go 1 md_237 (i1 := 9) rfl ?_
    exact P237_9 H hd
  · rw [if_neg h3] at H
    refine n_ifF (n_q md_237 rfl) (fun e1 => h3 (of_decide_eq_true e1)) ?_
    refine g_go 2 md_237 (i1 := 9) rfl ?_
    exact P237_9 H hd

theorem md_238 : m_md 238 = m_L_frees := rfl
noncomputable def f238 (s : g_S) (p1 : Int32) : Option ((Int32 × Nat) × g_S) := (g_wb (f97 s p1) (fun v1 s2 => g_let (g_w s2 564 0 v1) fun s3 => some (((0, 0), s3))) (fun ee ss => if ee = 1 then some ((1, 1), ss) else none))
theorem C238 {d ex : Nat} {s : g_S} {p1 : Int32}  {z : (Int32 × Nat) × g_S} (hd : 18 < d) (H : f238 s p1 = some z) : n_C X d 238 [.ref 0, .int p1, .ref 564] (g_M s ex) (g_rW z ex) := by
  obtain ⟨d, rfl⟩ : ∃ d1, d = d1 + 1 := ⟨d - 1, by omega⟩
  replace hd := Nat.le_of_lt_succ hd
  refine ⟨Nat.le_of_ble_eq_true rfl, ?_⟩
  rw [md_238]
  show n_R X (d + 1) 238 0 [some (.ref 0), some (.int p1), some (.ref 564), none] [] (g_M s ex) _
  unfold f238 at H
  refine g_go 4 md_238 (i1 := 4) rfl ?_
  rcases g_wbp H with ⟨v1, s2, hv1, H⟩ | ⟨v1, s2, hv1, H⟩
  rotate_left
  · all_goals skip
    by_cases c0 : v1 = 1
    · subst c0
      cases H
      refine n_callx (z := .inl none) (n_q md_238 rfl) (As := [.ref 0, .int p1]) (rest := [.int 0, .ref 564]) rfl rfl (Nat.le_of_ble_eq_true rfl) rfl (g_recv (b := 0) rfl t_0 rfl) (C97 (by omega) hv1) rfl
    rw [if_neg c0] at H
    cases H
  refine n_callv (n_q md_238 rfl) (As := [.ref 0, .int p1]) (rest := [.int 0, .ref 564]) rfl rfl (Nat.le_of_ble_eq_true rfl) rfl (g_recv (b := 0) rfl t_0 rfl) (C97 (by omega) hv1) ?_
  refine g_go 1 md_238 (i1 := 6) rfl ?_
  obtain ⟨s3, es3, H⟩ := g_letp H
  refine g_last (n_q md_238 rfl) rfl es3 ?_
  refine g_go 2 md_238 (i1 := 12) rfl ?_
  cases H
  exact n_iret (n_q md_238 rfl) (Or.inl rfl)

theorem md_239 : m_md 239 = m_L_question := rfl
noncomputable def f239 (s : g_S) (p1 : Int32) (p2 : Int32) (p3 : Int32) : Option ((Int32 × Nat) × g_S) := (g_wb (f98 s p1 p2 p3) (fun v1 s2 => g_let (g_w s2 564 0 v1) fun s3 => some (((0, 0), s3))) (fun ee ss => if ee = 1 then some ((1, 1), ss) else if ee = 0 then some ((2, 1), ss) else none))
theorem C239 {d ex : Nat} {s : g_S} {p1 : Int32} {p2 : Int32} {p3 : Int32}  {z : (Int32 × Nat) × g_S} (hd : 15 < d) (H : f239 s p1 p2 p3 = some z) : n_C X d 239 [.ref 0, .int p1, .int p2, .int p3, .ref 564] (g_M s ex) (g_rW z ex) := by
  obtain ⟨d, rfl⟩ : ∃ d1, d = d1 + 1 := ⟨d - 1, by omega⟩
  replace hd := Nat.le_of_lt_succ hd
  refine ⟨Nat.le_of_ble_eq_true rfl, ?_⟩
  rw [md_239]
  show n_R X (d + 1) 239 0 [some (.ref 0), some (.int p1), some (.int p2), some (.int p3), some (.ref 564), none] [] (g_M s ex) _
  unfold f239 at H
  refine g_go 6 md_239 (i1 := 6) rfl ?_
  rcases g_wbp H with ⟨v1, s2, hv1, H⟩ | ⟨v1, s2, hv1, H⟩
  rotate_left
  · all_goals skip
    by_cases c0 : v1 = 1
    · subst c0
      cases H
      refine n_callx (z := .inl none) (n_q md_239 rfl) (As := [.ref 0, .int p1, .int p2, .int p3]) (rest := [.int 0, .ref 564]) rfl rfl (Nat.le_of_ble_eq_true rfl) rfl (g_recv (b := 0) rfl t_0 rfl) (C98 (by omega) hv1) rfl
    rw [if_neg c0] at H
    by_cases c1 : v1 = 0
    · subst c1
      cases H
      refine n_callx (z := .inl none) (n_q md_239 rfl) (As := [.ref 0, .int p1, .int p2, .int p3]) (rest := [.int 0, .ref 564]) rfl rfl (Nat.le_of_ble_eq_true rfl) rfl (g_recv (b := 0) rfl t_0 rfl) (C98 (by omega) hv1) rfl
    rw [if_neg c1] at H
    cases H
  refine n_callv (n_q md_239 rfl) (As := [.ref 0, .int p1, .int p2, .int p3]) (rest := [.int 0, .ref 564]) rfl rfl (Nat.le_of_ble_eq_true rfl) rfl (g_recv (b := 0) rfl t_0 rfl) (C98 (by omega) hv1) ?_
  refine g_go 1 md_239 (i1 := 8) rfl ?_
  obtain ⟨s3, es3, H⟩ := g_letp H
  refine g_last (n_q md_239 rfl) rfl es3 ?_
  refine g_go 2 md_239 (i1 := 17) rfl ?_
  cases H
  exact n_iret (n_q md_239 rfl) (Or.inl rfl)

theorem md_240 : m_md 240 = m_L_inCase := rfl
noncomputable def f240 (s : g_S) (p1 : Int32) (p2 : Int32) : Option ((Int32 × Nat) × g_S) := (g_wb (f99 s p1 p2) (fun v1 s2 => g_let (g_w s2 564 0 v1) fun s3 => some (((0, 0), s3))) (fun ee ss => if ee = 1 then some ((1, 1), ss) else if ee = 0 then some ((2, 1), ss) else none))
theorem C240 {d ex : Nat} {s : g_S} {p1 : Int32} {p2 : Int32}  {z : (Int32 × Nat) × g_S} (hd : 18 < d) (H : f240 s p1 p2 = some z) : n_C X d 240 [.ref 0, .int p1, .int p2, .ref 564] (g_M s ex) (g_rW z ex) := by
  obtain ⟨d, rfl⟩ : ∃ d1, d = d1 + 1 := ⟨d - 1, by omega⟩
  replace hd := Nat.le_of_lt_succ hd
  refine ⟨Nat.le_of_ble_eq_true rfl, ?_⟩
  rw [md_240]
  show n_R X (d + 1) 240 0 [some (.ref 0), some (.int p1), some (.int p2), some (.ref 564), none] [] (g_M s ex) _
  unfold f240 at H
  refine g_go 5 md_240 (i1 := 5) rfl ?_
  rcases g_wbp H with ⟨v1, s2, hv1, H⟩ | ⟨v1, s2, hv1, H⟩
  rotate_left
  · all_goals skip
    by_cases c0 : v1 = 1
    · subst c0
      cases H
      refine n_callx (z := .inl none) (n_q md_240 rfl) (As := [.ref 0, .int p1, .int p2]) (rest := [.int 0, .ref 564]) rfl rfl (Nat.le_of_ble_eq_true rfl) rfl (g_recv (b := 0) rfl t_0 rfl) (C99 (by omega) hv1) rfl
    rw [if_neg c0] at H
    by_cases c1 : v1 = 0
    · subst c1
      cases H
      refine n_callx (z := .inl none) (n_q md_240 rfl) (As := [.ref 0, .int p1, .int p2]) (rest := [.int 0, .ref 564]) rfl rfl (Nat.le_of_ble_eq_true rfl) rfl (g_recv (b := 0) rfl t_0 rfl) (C99 (by omega) hv1) rfl
    rw [if_neg c1] at H
    cases H
  refine n_callv (n_q md_240 rfl) (As := [.ref 0, .int p1, .int p2]) (rest := [.int 0, .ref 564]) rfl rfl (Nat.le_of_ble_eq_true rfl) rfl (g_recv (b := 0) rfl t_0 rfl) (C99 (by omega) hv1) ?_
  refine g_go 1 md_240 (i1 := 7) rfl ?_
  obtain ⟨s3, es3, H⟩ := g_letp H
  refine g_last (n_q md_240 rfl) rfl es3 ?_
  refine g_go 2 md_240 (i1 := 16) rfl ?_
  cases H
  exact n_iret (n_q md_240 rfl) (Or.inl rfl)

theorem md_241 : m_md 241 = m_L_sure := rfl
noncomputable def f241 (s : g_S) (p1 : Int32) : Option ((Int32 × Nat) × g_S) := (g_wb (f100 s p1) (fun v1 s2 => g_let (g_w s2 564 0 v1) fun s3 => some (((0, 0), s3))) (fun ee ss => if ee = 1 then some ((1, 1), ss) else none))
theorem C241 {d ex : Nat} {s : g_S} {p1 : Int32}  {z : (Int32 × Nat) × g_S} (hd : 19 < d) (H : f241 s p1 = some z) : n_C X d 241 [.ref 0, .int p1, .ref 564] (g_M s ex) (g_rW z ex) := by
  obtain ⟨d, rfl⟩ : ∃ d1, d = d1 + 1 := ⟨d - 1, by omega⟩
  replace hd := Nat.le_of_lt_succ hd
  refine ⟨Nat.le_of_ble_eq_true rfl, ?_⟩
  rw [md_241]
  show n_R X (d + 1) 241 0 [some (.ref 0), some (.int p1), some (.ref 564), none] [] (g_M s ex) _
  unfold f241 at H
  refine g_go 4 md_241 (i1 := 4) rfl ?_
  rcases g_wbp H with ⟨v1, s2, hv1, H⟩ | ⟨v1, s2, hv1, H⟩
  rotate_left
  · all_goals skip
    by_cases c0 : v1 = 1
    · subst c0
      cases H
      refine n_callx (z := .inl none) (n_q md_241 rfl) (As := [.ref 0, .int p1]) (rest := [.int 0, .ref 564]) rfl rfl (Nat.le_of_ble_eq_true rfl) rfl (g_recv (b := 0) rfl t_0 rfl) (C100 (by omega) hv1) rfl
    rw [if_neg c0] at H
    cases H
  refine n_callv (n_q md_241 rfl) (As := [.ref 0, .int p1]) (rest := [.int 0, .ref 564]) rfl rfl (Nat.le_of_ble_eq_true rfl) rfl (g_recv (b := 0) rfl t_0 rfl) (C100 (by omega) hv1) ?_
  refine g_go 1 md_241 (i1 := 6) rfl ?_
  obtain ⟨s3, es3, H⟩ := g_letp H
  refine g_last (n_q md_241 rfl) rfl es3 ?_
  refine g_go 2 md_241 (i1 := 12) rfl ?_
  cases H
  exact n_iret (n_q md_241 rfl) (Or.inl rfl)

theorem md_242 : m_md 242 = m_L_cases := rfl
noncomputable def f242 (s : g_S) (p1 : Int32) : Option ((Int32 × Nat) × g_S) := (g_wb (f101 s p1) (fun v1 s2 => g_let (g_w s2 564 0 v1) fun s3 => some (((0, 0), s3))) (fun ee ss => if ee = 1 then some ((1, 1), ss) else none))
theorem C242 {d ex : Nat} {s : g_S} {p1 : Int32}  {z : (Int32 × Nat) × g_S} (hd : 19 < d) (H : f242 s p1 = some z) : n_C X d 242 [.ref 0, .int p1, .ref 564] (g_M s ex) (g_rW z ex) := by
  obtain ⟨d, rfl⟩ : ∃ d1, d = d1 + 1 := ⟨d - 1, by omega⟩
  replace hd := Nat.le_of_lt_succ hd
  refine ⟨Nat.le_of_ble_eq_true rfl, ?_⟩
  rw [md_242]
  show n_R X (d + 1) 242 0 [some (.ref 0), some (.int p1), some (.ref 564), none] [] (g_M s ex) _
  unfold f242 at H
  refine g_go 4 md_242 (i1 := 4) rfl ?_
  rcases g_wbp H with ⟨v1, s2, hv1, H⟩ | ⟨v1, s2, hv1, H⟩
  rotate_left
  · all_goals skip
    by_cases c0 : v1 = 1
    · subst c0
      cases H
      refine n_callx (z := .inl none) (n_q md_242 rfl) (As := [.ref 0, .int p1]) (rest := [.int 0, .ref 564]) rfl rfl (Nat.le_of_ble_eq_true rfl) rfl (g_recv (b := 0) rfl t_0 rfl) (C101 (by omega) hv1) rfl
    rw [if_neg c0] at H
    cases H
  refine n_callv (n_q md_242 rfl) (As := [.ref 0, .int p1]) (rest := [.int 0, .ref 564]) rfl rfl (Nat.le_of_ble_eq_true rfl) rfl (g_recv (b := 0) rfl t_0 rfl) (C101 (by omega) hv1) ?_
  refine g_go 1 md_242 (i1 := 6) rfl ?_
  obtain ⟨s3, es3, H⟩ := g_letp H
  refine g_last (n_q md_242 rfl) rfl es3 ?_
  refine g_go 2 md_242 (i1 := 12) rfl ?_
  cases H
  exact n_iret (n_q md_242 rfl) (Or.inl rfl)

theorem md_243 : m_md 243 = m_L_hangs := rfl
noncomputable def f243 (s : g_S) (p1 : Int32) : Option ((Int32 × Nat) × g_S) := (g_wb (f102 s p1) (fun v1 s2 => g_let (g_w s2 564 0 v1) fun s3 => some (((0, 0), s3))) (fun ee ss => if ee = 1 then some ((1, 1), ss) else none))
theorem C243 {d ex : Nat} {s : g_S} {p1 : Int32}  {z : (Int32 × Nat) × g_S} (hd : 19 < d) (H : f243 s p1 = some z) : n_C X d 243 [.ref 0, .int p1, .ref 564] (g_M s ex) (g_rW z ex) := by
  obtain ⟨d, rfl⟩ : ∃ d1, d = d1 + 1 := ⟨d - 1, by omega⟩
  replace hd := Nat.le_of_lt_succ hd
  refine ⟨Nat.le_of_ble_eq_true rfl, ?_⟩
  rw [md_243]
  show n_R X (d + 1) 243 0 [some (.ref 0), some (.int p1), some (.ref 564), none] [] (g_M s ex) _
  unfold f243 at H
  refine g_go 4 md_243 (i1 := 4) rfl ?_
  rcases g_wbp H with ⟨v1, s2, hv1, H⟩ | ⟨v1, s2, hv1, H⟩
  rotate_left
  · all_goals skip
    by_cases c0 : v1 = 1
    · subst c0
      cases H
      refine n_callx (z := .inl none) (n_q md_243 rfl) (As := [.ref 0, .int p1]) (rest := [.int 0, .ref 564]) rfl rfl (Nat.le_of_ble_eq_true rfl) rfl (g_recv (b := 0) rfl t_0 rfl) (C102 (by omega) hv1) rfl
    rw [if_neg c0] at H
    cases H
  refine n_callv (n_q md_243 rfl) (As := [.ref 0, .int p1]) (rest := [.int 0, .ref 564]) rfl rfl (Nat.le_of_ble_eq_true rfl) rfl (g_recv (b := 0) rfl t_0 rfl) (C102 (by omega) hv1) ?_
  refine g_go 1 md_243 (i1 := 6) rfl ?_
  obtain ⟨s3, es3, H⟩ := g_letp H
  refine g_last (n_q md_243 rfl) rfl es3 ?_
  refine g_go 2 md_243 (i1 := 12) rfl ?_
  cases H
  exact n_iret (n_q md_243 rfl) (Or.inl rfl)

theorem md_244 : m_md 244 = m_L_find := rfl
noncomputable def f244 (s : g_S) (p1 : Int32) (p2 : Int32) : Option ((Int32 × Nat) × g_S) := (g_wb (f104 s p1 p2) (fun v1 s2 => g_let (g_w s2 564 0 v1) fun s3 => some (((0, 0), s3))) (fun ee ss => if ee = 1 then some ((1, 1), ss) else none))
theorem C244 {d ex : Nat} {s : g_S} {p1 : Int32} {p2 : Int32}  {z : (Int32 × Nat) × g_S} (hd : 15 < d) (H : f244 s p1 p2 = some z) : n_C X d 244 [.ref 0, .int p1, .int p2, .ref 564] (g_M s ex) (g_rW z ex) := by
  obtain ⟨d, rfl⟩ : ∃ d1, d = d1 + 1 := ⟨d - 1, by omega⟩
  replace hd := Nat.le_of_lt_succ hd
  refine ⟨Nat.le_of_ble_eq_true rfl, ?_⟩
  rw [md_244]
  show n_R X (d + 1) 244 0 [some (.ref 0), some (.int p1), some (.int p2), some (.ref 564), none] [] (g_M s ex) _
  unfold f244 at H
  refine g_go 5 md_244 (i1 := 5) rfl ?_
  rcases g_wbp H with ⟨v1, s2, hv1, H⟩ | ⟨v1, s2, hv1, H⟩
  rotate_left
  · all_goals skip
    by_cases c0 : v1 = 1
    · subst c0
      cases H
      refine n_callx (z := .inl none) (n_q md_244 rfl) (As := [.ref 0, .int p1, .int p2]) (rest := [.int 0, .ref 564]) rfl rfl (Nat.le_of_ble_eq_true rfl) rfl (g_recv (b := 0) rfl t_0 rfl) (C104 (by omega) hv1) rfl
    rw [if_neg c0] at H
    cases H
  refine n_callv (n_q md_244 rfl) (As := [.ref 0, .int p1, .int p2]) (rest := [.int 0, .ref 564]) rfl rfl (Nat.le_of_ble_eq_true rfl) rfl (g_recv (b := 0) rfl t_0 rfl) (C104 (by omega) hv1) ?_
  refine g_go 1 md_244 (i1 := 7) rfl ?_
  obtain ⟨s3, es3, H⟩ := g_letp H
  refine g_last (n_q md_244 rfl) rfl es3 ?_
  refine g_go 2 md_244 (i1 := 13) rfl ?_
  cases H
  exact n_iret (n_q md_244 rfl) (Or.inl rfl)

end K11
