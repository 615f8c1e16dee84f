/-! METHODS, written by wip/whole/gen_51.py (1). -/
section K1
variable {X : m_X}
theorem md_35 : m_md 35 = m_X4_owedFor := rfl
noncomputable def f35_13 (s : g_S) (p0 : Nat) (p1 : Int32) (p2 : Nat) (x3 : Int32) : Option (Int32 × g_S) := (g_bd (f41 s p0 x3 p2) fun v1 s2 => some ((g_max 0 (g_min 9999 v1), s2)))
theorem P35_13 {d ex : Nat} {s : g_S} {p0 : Nat} {p1 : Int32} {p2 : Nat} {x3 : Int32} (ph0 : g_lay p0 = o_4 p0) (ph2 : g_lay p2 = (1, (8, [])))  {z : (Int32 × g_S)} (H : f35_13 s p0 p1 p2 x3 = some z) (hd : 14 ≤ d)  : n_R X (d + 1) 35 13 [some (.ref p0), some (.int p1), some (.ref p2), some (.int x3)] [] (g_M s ex) (g_rSI z ex) := by
  unfold f35_13 at H
  refine g_go 5 md_35 (i1 := 18) rfl ?_
  obtain ⟨v1, s2, hv1, H⟩ := g_bdp H
  refine n_callv (n_q md_35 rfl) (As := [.ref p0, .int x3, .ref p2]) (rest := [.int 9999, .int 0]) rfl rfl (Nat.le_of_ble_eq_true rfl) rfl (g_recv (b := 0) rfl ph0 rfl) (C41 ph0 ph2 (by omega) hv1) ?_
  refine n_min (n_q md_35 rfl) (by omega) (Nat.le_of_ble_eq_true rfl) ?_
  refine n_max (n_q md_35 rfl) (by omega) (Nat.le_of_ble_eq_true rfl) ?_
  cases H
  exact n_iret (n_q md_35 rfl) (Or.inl rfl)
noncomputable def f35_5 (s : g_S) (p0 : Nat) (p1 : Int32) (p2 : Nat) (x3 : Int32) : Option ((Int32) ⊕ (Int32 × g_S)) := (if x3 < 0 then (some (.inr ((s p2 6, s)))) else ((f39 s p0 x3 2 p1).bind fun v2 => if v2 = 0 then (some (.inl (x3 + (-1)))) else (Option.map (fun w => (.inr (w) : ((Int32) ⊕ (Int32 × g_S)))) (f35_13 s p0 p1 p2 x3))))
theorem P35_5 {d ex : Nat} {rr : m_R} {s : g_S} {p0 : Nat} {p1 : Int32} {p2 : Nat} {x3 : Int32} (ph0 : g_lay p0 = o_4 p0) (ph2 : g_lay p2 = (1, (8, [])))  {z : ((Int32) ⊕ (Int32 × g_S))} (H : f35_5 s p0 p1 p2 x3 = some z) (hd : 14 ≤ d) (K0 : ∀ S : Int32, z = .inl S → n_R X (d + 1) 35 5 [some (.ref p0), some (.int p1), some (.ref p2), some (.int S)] [] (g_M s ex) rr) (Kr : ∀ q, z = .inr (q) → g_rSI q ex = rr) : n_R X (d + 1) 35 5 [some (.ref p0), some (.int p1), some (.ref p2), some (.int x3)] [] (g_M s ex) rr := by
  unfold f35_5 at H
  refine g_go 1 md_35 (i1 := 6) rfl ?_
  by_cases h1 : x3 < 0
  · rw [if_pos h1] at H
    refine n_ifT (n_q md_35 rfl) (decide_eq_true h1) ?_
    refine g_go 2 md_35 (i1 := 26) rfl ?_
    refine g_iald (n_q md_35 rfl) ph2 (rfl : m_in 6 8 = true) ?_
    cases H
    rw [← Kr _ rfl]
    exact n_iret (n_q md_35 rfl) (Or.inl rfl)
  · rw [if_neg h1] at H
    refine n_ifF (n_q md_35 rfl) (fun e1 => h1 (of_decide_eq_true e1)) ?_
    refine g_go 4 md_35 (i1 := 11) rfl ?_
    obtain ⟨v2, hv2, H⟩ := g_bind H
    refine n_callv (n_q md_35 rfl) (As := [.ref p0, .int x3, .int 2, .int p1]) (rest := []) rfl rfl (Nat.le_of_ble_eq_true rfl) rfl (g_recv (b := 0) rfl ph0 rfl) (C39 ph0 (by omega) hv2) ?_
    by_cases h3 : v2 = 0
    · rw [if_pos h3] at H
      refine n_ifT (n_q md_35 rfl) (decide_eq_true h3) ?_
      refine g_go 2 md_35 (i1 := 5) (ls1 := [some (.ref p0), some (.int p1), some (.ref p2), some (.int (x3 + (-1)))]) rfl ?_
      cases H
      exact K0 (x3 + (-1)) rfl
    · rw [if_neg h3] at H
      refine n_ifF (n_q md_35 rfl) (fun e1 => h3 (of_decide_eq_true e1)) ?_
      obtain ⟨w, hw, H⟩ := g_mapp H
      subst H
      rw [← Kr _ rfl]
      exact P35_13 ph0 ph2 hw hd
noncomputable def f35_5L (s : g_S) (p0 : Nat) (p1 : Int32) (p2 : Nat) (x3 : Int32) : Option (Int32 × g_S) := g_run (fun S : Int32 => f35_5 s p0 p1 p2 S) x3
theorem f35_5L_eq (s : g_S) (p0 : Nat) (p1 : Int32) (p2 : Nat) (x3 : Int32) : f35_5L s p0 p1 p2 x3 = g_st (f35_5 s p0 p1 p2 x3) (fun S => f35_5L s p0 p1 p2 S) := by
  unfold f35_5L
  exact g_run_eq _ _
theorem P35_5L {d ex : Nat} {s : g_S} {p0 : Nat} {p1 : Int32} {p2 : Nat} {x3 : Int32} (ph0 : g_lay p0 = o_4 p0) (ph2 : g_lay p2 = (1, (8, [])))  {z : (Int32 × g_S)} (H : f35_5L s p0 p1 p2 x3 = some z) (hd : 14 ≤ d)  : n_R X (d + 1) 35 5 [some (.ref p0), some (.int p1), some (.ref p2), some (.int x3)] [] (g_M s ex) (g_rSI z ex) := by
  unfold f35_5L at H
  refine g_rs (Q := fun S => n_R X (d + 1) 35 5 [some (.ref p0), some (.int p1), some (.ref p2), some (.int S)] [] (g_M s ex) (g_rSI z ex)) H ?_
  intro S w hb K0 KK
  refine P35_5 ph0 ph2 hb hd ?_ ?_
  · exact fun S1 e1 => K0 S1 e1
  · exact fun q e1 => by rw [KK q e1]
noncomputable def f35 (s : g_S) (p0 : Nat) (p1 : Int32) (p2 : Nat) : Option (Int32 × g_S) := (f35_5L s p0 p1 p2 ((s p0 1) - 1))
theorem C35 {d ex : Nat} {s : g_S} {p0 : Nat} {p1 : Int32} {p2 : Nat} (ph0 : g_lay p0 = o_4 p0) (ph2 : g_lay p2 = (1, (8, []))) {z : Int32 × g_S} (hd : 14 < d) (H : f35 s p0 p1 p2 = some z) : n_C X d 35 [.ref p0, .int p1, .ref p2] (g_M s ex) (g_rSI z ex) := by
  obtain ⟨d, rfl⟩ : ∃ d1, d = d1 + 1 := ⟨d - 1, by omega⟩
  replace hd := Nat.le_of_lt_succ hd
  refine ⟨Nat.le_of_ble_eq_true rfl, ?_⟩
  rw [md_35]
  show n_R X (d + 1) 35 0 [some (.ref p0), some (.int p1), some (.ref p2), none] [] (g_M s ex) _
  unfold f35 at H
  refine g_go 1 md_35 (i1 := 1) rfl ?_
  refine g_getf (n_q md_35 rfl) ph0 rfl ?_
  refine g_go 3 md_35 (i1 := 5) (ls1 := [some (.ref p0), some (.int p1), some (.ref p2), some (.int ((s p0 1) - 1))]) rfl ?_
  exact P35_5L ph0 ph2 H hd

theorem md_12 : m_md 12 = m_X1_claimOn := rfl
noncomputable def f12_81 (s : g_S) (p1 : Int32) (p2 : Nat) (p3 : Nat) (y1 : Int32) (y2 : Int32) : Option (g_S) := (if m_in y1 13 = true then g_let (g_w s 79 y1.toNatClampNeg y2) fun s2 => some s2 else none)
theorem P12_81 {d ex : Nat} {s : g_S} {p1 : Int32} {p2 : Nat} {p3 : Nat} {y1 : Int32} {y2 : Int32} {u4 u5 : Option Value} (ph2 : g_lay p2 = o_0 p2) (ph3 : g_lay p3 = o_4 p3)  {z : (g_S)} (H : f12_81 s p1 p2 p3 y1 y2 = some z) (hd : 15 ≤ d)  : n_R X (d + 1) 12 81 [some (.ref 77), some (.int p1), some (.ref p2), some (.ref p3), u4, u5] [.int y2, .int y1, .ref 79] (g_M s ex) (g_rSV z ex) := by
  unfold f12_81 at H
  obtain ⟨h1, H⟩ := g_gd H
  obtain ⟨s2, es2, H⟩ := g_letp H
  refine g_iast (n_q md_12 rfl) t_79 h1 es2 ?_
  cases H
  exact n_end (n_q md_12 rfl) (fun _ => rfl)
noncomputable def f12_64 (s : g_S) (p1 : Int32) (p2 : Nat) (p3 : Nat) (y1 : Int32) (y2 : Int32) : Option (g_S) := (if m_in y1 13 = true then g_let (g_w s 78 y1.toNatClampNeg y2) fun s2 => (f3 s2 p2 (p1 - 1) (s2 77 7)).bind fun v3 => if v3 = 0 then (f12_81 s2 p1 p2 p3 p1 (p1 - 1)) else (f12_81 s2 p1 p2 p3 p1 0) else none)
theorem P12_64 {d ex : Nat} {s : g_S} {p1 : Int32} {p2 : Nat} {p3 : Nat} {y1 : Int32} {y2 : Int32} {u4 u5 : Option Value} (ph2 : g_lay p2 = o_0 p2) (ph3 : g_lay p3 = o_4 p3)  {z : (g_S)} (H : f12_64 s p1 p2 p3 y1 y2 = some z) (hd : 15 ≤ d)  : n_R X (d + 1) 12 64 [some (.ref 77), some (.int p1), some (.ref p2), some (.ref p3), u4, u5] [.int y2, .int y1, .ref 78] (g_M s ex) (g_rSV z ex) := by
  unfold f12_64 at H
  obtain ⟨h1, H⟩ := g_gd H
  obtain ⟨s2, es2, H⟩ := g_letp H
  refine g_iast (n_q md_12 rfl) t_78 h1 es2 ?_
  refine g_go 1 md_12 (i1 := 66) rfl ?_
  refine g_getr 79 (n_q md_12 rfl) t_77 rfl ?_
  refine g_go 6 md_12 (i1 := 73) rfl ?_
  refine g_getf (n_q md_12 rfl) t_77 rfl ?_
  obtain ⟨v3, hv3, H⟩ := g_bind H
  refine n_callv (n_q md_12 rfl) (As := [.ref p2, .int (p1 - 1), .int (s2 77 7)]) (rest := [.int p1, .ref 79]) rfl rfl (Nat.le_of_ble_eq_true rfl) rfl (g_recv (b := 0) rfl ph2 rfl) (C3 ph2 (by omega) hv3) ?_
  by_cases h4 : v3 = 0
  · rw [if_pos h4] at H
    refine n_ifT (n_q md_12 rfl) (decide_eq_true h4) ?_
    refine g_go 3 md_12 (i1 := 81) rfl ?_
    exact P12_81 ph2 ph3 H hd
  · rw [if_neg h4] at H
    refine n_ifF (n_q md_12 rfl) (fun e1 => h4 (of_decide_eq_true e1)) ?_
    refine g_go 2 md_12 (i1 := 81) rfl ?_
    exact P12_81 ph2 ph3 H hd
noncomputable def f12_56 (s : g_S) (p1 : Int32) (p2 : Nat) (p3 : Nat) (x4 : Nat) (y1 : Int32) : Option (g_S) := (g_bd (f35 s p3 (s x4 0) 84) fun v1 s2 => f12_64 s2 p1 p2 p3 y1 v1)
theorem P12_56 {d ex : Nat} {s : g_S} {p1 : Int32} {p2 : Nat} {p3 : Nat} {x4 : Nat} {y1 : Int32} {u5 : Option Value} (ph2 : g_lay p2 = o_0 p2) (ph3 : g_lay p3 = o_4 p3) (hx4 : g_lay x4 = o_3 x4) {z : (g_S)} (H : f12_56 s p1 p2 p3 x4 y1 = some z) (hd : 15 ≤ d)  : n_R X (d + 1) 12 56 [some (.ref 77), some (.int p1), some (.ref p2), some (.ref p3), some (.ref x4), u5] [.int y1, .ref 78] (g_M s ex) (g_rSV z ex) := by
  unfold f12_56 at H
  refine g_go 2 md_12 (i1 := 58) rfl ?_
  refine g_getf (n_q md_12 rfl) hx4 rfl ?_
  refine g_go 1 md_12 (i1 := 60) rfl ?_
  refine g_getr 84 (n_q md_12 rfl) t_77 rfl ?_
  obtain ⟨v1, s2, hv1, H⟩ := g_bdp H
  refine n_callv (n_q md_12 rfl) (As := [.ref p3, .int (s x4 0), .ref 84]) (rest := [.int y1, .ref 78]) rfl rfl (Nat.le_of_ble_eq_true rfl) rfl (g_recv (b := 0) rfl ph3 rfl) (C35 ph3 t_84 (by omega) hv1) ?_
  refine g_go 1 md_12 (i1 := 64) rfl ?_
  exact P12_64 ph2 ph3 H hd
noncomputable def f12_45 (s : g_S) (p1 : Int32) (p2 : Nat) (p3 : Nat) (x4 : Nat) (x5 : Int32) (y1 : Int32) (y2 : Int32) : Option (g_S) := (if m_in y1 13 = true then if m_isb y2 = true then g_let (g_w s 82 y1.toNatClampNeg y2) fun s3 => if x5 = 0 then (if m_in p1 13 = true then if (s3 82 p1.toNatClampNeg) = 0 then (f12_64 s3 p1 p2 p3 p1 0) else (f12_56 s3 p1 p2 p3 x4 p1) else none) else (f12_56 s3 p1 p2 p3 x4 p1) else none else none)
theorem P12_45 {d ex : Nat} {s : g_S} {p1 : Int32} {p2 : Nat} {p3 : Nat} {x4 : Nat} {x5 : Int32} {y1 : Int32} {y2 : Int32} (ph2 : g_lay p2 = o_0 p2) (ph3 : g_lay p3 = o_4 p3) (hx4 : g_lay x4 = o_3 x4) {z : (g_S)} (H : f12_45 s p1 p2 p3 x4 x5 y1 y2 = some z) (hd : 15 ≤ d)  : n_R X (d + 1) 12 45 [some (.ref 77), some (.int p1), some (.ref p2), some (.ref p3), some (.ref x4), some (.int x5)] [.int y2, .int y1, .ref 82] (g_M s ex) (g_rSV z ex) := by
  unfold f12_45 at H
  obtain ⟨h1, H⟩ := g_gd H
  obtain ⟨hb2, H⟩ := g_gd H
  obtain ⟨s3, es3, H⟩ := g_letp H
  refine g_bast (n_q md_12 rfl) t_82 h1 hb2 es3 ?_
  refine g_go 1 md_12 (i1 := 47) rfl ?_
  refine g_getr 78 (n_q md_12 rfl) t_77 rfl ?_
  refine g_go 2 md_12 (i1 := 50) rfl ?_
  by_cases h4 : x5 = 0
  · rw [if_pos h4] at H
    refine n_ifF (n_q md_12 rfl) (fun e1 => of_decide_eq_true e1 h4) ?_
    refine g_go 1 md_12 (i1 := 52) rfl ?_
    refine g_getr 82 (n_q md_12 rfl) t_77 rfl ?_
    refine g_go 1 md_12 (i1 := 54) rfl ?_
    obtain ⟨h5, H⟩ := g_gd H
    refine g_bald (n_q md_12 rfl) t_82 h5 ?_
    by_cases h6 : (s3 82 p1.toNatClampNeg) = 0
    · rw [if_pos h6] at H
      refine n_ifT (n_q md_12 rfl) (decide_eq_true h6) ?_
      refine g_go 1 md_12 (i1 := 64) rfl ?_
      exact P12_64 ph2 ph3 H hd
    · rw [if_neg h6] at H
      refine n_ifF (n_q md_12 rfl) (fun e1 => h6 (of_decide_eq_true e1)) ?_
      exact P12_56 ph2 ph3 hx4 H hd
  · rw [if_neg h4] at H
    refine n_ifT (n_q md_12 rfl) (decide_eq_true h4) ?_
    exact P12_56 ph2 ph3 hx4 H hd
noncomputable def f12_44 (s : g_S) (p1 : Int32) (p2 : Nat) (p3 : Nat) (x4 : Nat) (x5 : Int32) (y1 : Int32) : Option (g_S) := (f12_45 s p1 p2 p3 x4 x5 y1 0)
theorem P12_44 {d ex : Nat} {s : g_S} {p1 : Int32} {p2 : Nat} {p3 : Nat} {x4 : Nat} {x5 : Int32} {y1 : Int32} (ph2 : g_lay p2 = o_0 p2) (ph3 : g_lay p3 = o_4 p3) (hx4 : g_lay x4 = o_3 x4) {z : (g_S)} (H : f12_44 s p1 p2 p3 x4 x5 y1 = some z) (hd : 15 ≤ d)  : n_R X (d + 1) 12 44 [some (.ref 77), some (.int p1), some (.ref p2), some (.ref p3), some (.ref x4), some (.int x5)] [.int y1, .ref 82] (g_M s ex) (g_rSV z ex) := by
  unfold f12_44 at H
  refine g_go 1 md_12 (i1 := 45) rfl ?_
  exact P12_45 ph2 ph3 hx4 H hd
noncomputable def f12 (s : g_S) (p1 : Int32) (p2 : Nat) (p3 : Nat) : Option (g_S) := (if m_in p1 13 = true then (f4 s p2 p1 (s 77 7) p3 84).bind fun s3 => g_bd (f34 s3 p3 0 (s3 (p2 + 6 + p1.toNatClampNeg) 0) (s3 p2 3) 84) fun v4 s5 => if v4 = 0 then ((f26 s5 (p2 + 6 + p1.toNatClampNeg) 3).bind fun v7 => if v7 = 0 then (g_bd (f34 s5 p3 1 (s5 (p2 + 6 + p1.toNatClampNeg) 0) (s5 p2 3) 84) fun v9 s10 => if v9 = 0 then (f12_44 s10 p1 p2 p3 (p2 + 6 + p1.toNatClampNeg) v4 p1) else (f12_45 s10 p1 p2 p3 (p2 + 6 + p1.toNatClampNeg) v4 p1 1)) else (f12_44 s5 p1 p2 p3 (p2 + 6 + p1.toNatClampNeg) v4 p1)) else (f12_44 s5 p1 p2 p3 (p2 + 6 + p1.toNatClampNeg) v4 p1) else none)
theorem C12 {d ex : Nat} {s : g_S} {p1 : Int32} {p2 : Nat} {p3 : Nat} (ph2 : g_lay p2 = o_0 p2) (ph3 : g_lay p3 = o_4 p3) {z : g_S} (hd : 15 < d) (H : f12 s p1 p2 p3 = some z) : n_C X d 12 [.ref 77, .int p1, .ref p2, .ref p3] (g_M s ex) (g_rSV z ex) := by
  obtain ⟨d, rfl⟩ : ∃ d1, d = d1 + 1 := ⟨d - 1, by omega⟩
  replace hd := Nat.le_of_lt_succ hd
  refine ⟨Nat.le_of_ble_eq_true rfl, ?_⟩
  rw [md_12]
  show n_R X (d + 1) 12 0 [some (.ref 77), some (.int p1), some (.ref p2), some (.ref p3), none, none] [] (g_M s ex) _
  unfold f12 at H
  refine g_go 1 md_12 (i1 := 1) rfl ?_
  refine g_getr (p2 + 1) (n_q md_12 rfl) ph2 rfl ?_
  refine g_go 1 md_12 (i1 := 3) rfl ?_
  obtain ⟨h1, H⟩ := g_gd H
  refine g_aald (n_q md_12 rfl) (tf_0_0 ph2) (by decide) h1 (g_range (g_inlt h1)) ?_
  refine g_go 4 md_12 (i1 := 8) (ls1 := [some (.ref 77), some (.int p1), some (.ref p2), some (.ref p3), some (.ref (p2 + 6 + p1.toNatClampNeg)), none]) rfl ?_
  refine g_getf (n_q md_12 rfl) t_77 rfl ?_
  refine g_go 2 md_12 (i1 := 11) rfl ?_
  refine g_getr 84 (n_q md_12 rfl) t_77 rfl ?_
  obtain ⟨s3, hs3, H⟩ := g_bind H
  refine n_call (n_q md_12 rfl) (As := [.ref p2, .int p1, .int (s 77 7), .ref p3, .ref 84]) (rest := []) rfl rfl (Nat.le_of_ble_eq_true rfl) rfl (g_recv (b := 0) rfl ph2 rfl) (C4 ph2 ph3 t_84 (by omega) hs3) ?_
  refine g_go 3 md_12 (i1 := 16) rfl ?_
  refine g_getf (n_q md_12 rfl) (te_6 ph2 (g_inlt h1)) rfl ?_
  refine g_go 1 md_12 (i1 := 18) rfl ?_
  refine g_getf (n_q md_12 rfl) ph2 rfl ?_
  refine g_go 1 md_12 (i1 := 20) rfl ?_
  refine g_getr 84 (n_q md_12 rfl) t_77 rfl ?_
  obtain ⟨v4, s5, hv4, H⟩ := g_bdp H
  refine n_callv (n_q md_12 rfl) (As := [.ref p3, .int 0, .int (s3 (p2 + 6 + p1.toNatClampNeg) 0), .int (s3 p2 3), .ref 84]) (rest := []) rfl rfl (Nat.le_of_ble_eq_true rfl) rfl (g_recv (b := 0) rfl ph3 rfl) (C34 ph3 t_84 (by omega) hv4) ?_
  refine g_go 2 md_12 (i1 := 24) (ls1 := [some (.ref 77), some (.int p1), some (.ref p2), some (.ref p3), some (.ref (p2 + 6 + p1.toNatClampNeg)), some (.int v4)]) rfl ?_
  refine g_getr 82 (n_q md_12 rfl) t_77 rfl ?_
  refine g_go 2 md_12 (i1 := 27) rfl ?_
  by_cases h6 : v4 = 0
  · rw [if_pos h6] at H
    refine n_ifF (n_q md_12 rfl) (fun e1 => of_decide_eq_true e1 h6) ?_
    refine g_go 2 md_12 (i1 := 30) rfl ?_
    obtain ⟨v7, hv7, H⟩ := g_bind H
    refine n_callv (n_q md_12 rfl) (As := [.ref (p2 + 6 + p1.toNatClampNeg), .int 3]) (rest := [.int p1, .ref 82]) rfl rfl (Nat.le_of_ble_eq_true rfl) rfl (g_recv (b := 0) rfl (te_6 ph2 (g_inlt h1)) rfl) (C26 (te_6 ph2 (g_inlt h1)) (by omega) hv7) ?_
    by_cases h8 : v7 = 0
    · rw [if_pos h8] at H
      refine n_ifF (n_q md_12 rfl) (fun e1 => of_decide_eq_true e1 h8) ?_
      refine g_go 3 md_12 (i1 := 35) rfl ?_
      refine g_getf (n_q md_12 rfl) (te_6 ph2 (g_inlt h1)) rfl ?_
      refine g_go 1 md_12 (i1 := 37) rfl ?_
      refine g_getf (n_q md_12 rfl) ph2 rfl ?_
      refine g_go 1 md_12 (i1 := 39) rfl ?_
      refine g_getr 84 (n_q md_12 rfl) t_77 rfl ?_
      obtain ⟨v9, s10, hv9, H⟩ := g_bdp H
      refine n_callv (n_q md_12 rfl) (As := [.ref p3, .int 1, .int (s5 (p2 + 6 + p1.toNatClampNeg) 0), .int (s5 p2 3), .ref 84]) (rest := [.int p1, .ref 82]) rfl rfl (Nat.le_of_ble_eq_true rfl) rfl (g_recv (b := 0) rfl ph3 rfl) (C34 ph3 t_84 (by omega) hv9) ?_
      by_cases h11 : v9 = 0
      · rw [if_pos h11] at H
        refine n_ifT (n_q md_12 rfl) (decide_eq_true h11) ?_
        exact P12_44 ph2 ph3 (te_6 ph2 (g_inlt h1)) H hd
      · rw [if_neg h11] at H
        refine n_ifF (n_q md_12 rfl) (fun e1 => h11 (of_decide_eq_true e1)) ?_
        refine g_go 2 md_12 (i1 := 45) rfl ?_
        exact P12_45 ph2 ph3 (te_6 ph2 (g_inlt h1)) H hd
    · rw [if_neg h8] at H
      refine n_ifT (n_q md_12 rfl) (decide_eq_true h8) ?_
      exact P12_44 ph2 ph3 (te_6 ph2 (g_inlt h1)) H hd
  · rw [if_neg h6] at H
    refine n_ifT (n_q md_12 rfl) (decide_eq_true h6) ?_
    exact P12_44 ph2 ph3 (te_6 ph2 (g_inlt h1)) H hd

theorem md_13 : m_md 13 = m_X1_payUp := rfl
noncomputable def f13_3 (s : g_S) (p1 : Nat) (x2 : Int32) : Option ((Int32 × g_S) ⊕ (g_S)) := (if x2 < 1 then (some (.inr (s))) else (if m_in x2 13 = true then g_let (g_w s 80 x2.toNatClampNeg (g_min (s 78 x2.toNatClampNeg) ((s (p1 + 6 + x2.toNatClampNeg) 5) + (s 83 x2.toNatClampNeg)))) fun s3 => if 0 < (s3 79 x2.toNatClampNeg) then (if m_in (s3 79 x2.toNatClampNeg) 13 = true then g_let (g_w s3 83 (s3 79 x2.toNatClampNeg).toNatClampNeg ((s3 83 (s3 79 x2.toNatClampNeg).toNatClampNeg) + (s3 80 x2.toNatClampNeg))) fun s6 => some (.inl (x2 + (-1), s6)) else none) else (some (.inl (x2 + (-1), s3))) else none))
theorem P13_3 {d ex : Nat} {rr : m_R} {s : g_S} {p1 : Nat} {x2 : Int32} (ph1 : g_lay p1 = o_0 p1)  {z : ((Int32 × g_S) ⊕ (g_S))} (H : f13_3 s p1 x2 = some z) (hd : 12 ≤ d) (K0 : ∀ S : Int32 × g_S, z = .inl S → n_R X (d + 1) 13 3 [some (.ref 77), some (.ref p1), some (.int S.1)] [] (g_M S.2 ex) rr) (Kr : ∀ q, z = .inr (q) → g_rSV q ex = rr) : n_R X (d + 1) 13 3 [some (.ref 77), some (.ref p1), some (.int x2)] [] (g_M s ex) rr := by
  unfold f13_3 at H
  refine g_go 2 md_13 (i1 := 5) rfl ?_
  by_cases h1 : x2 < 1
  · rw [if_pos h1] at H
    refine n_cmpT (n_q md_13 rfl) (decide_eq_true h1) ?_
    cases H
    rw [← Kr _ rfl]
    exact n_end (n_q md_13 rfl) (fun _ => rfl)
  · rw [if_neg h1] at H
    refine n_cmpF (n_q md_13 rfl) (fun e1 => h1 (of_decide_eq_true e1)) ?_
    refine g_go 1 md_13 (i1 := 7) rfl ?_
    refine g_getr 80 (n_q md_13 rfl) t_77 rfl ?_
    refine g_go 2 md_13 (i1 := 10) rfl ?_
    refine g_getr 78 (n_q md_13 rfl) t_77 rfl ?_
    refine g_go 1 md_13 (i1 := 12) rfl ?_
    obtain ⟨h2, H⟩ := g_gd H
    refine g_iald (n_q md_13 rfl) t_78 h2 ?_
    refine g_go 1 md_13 (i1 := 14) rfl ?_
    refine g_getr (p1 + 1) (n_q md_13 rfl) ph1 rfl ?_
    refine g_go 1 md_13 (i1 := 16) rfl ?_
    refine g_aald (n_q md_13 rfl) (tf_0_0 ph1) (by decide) h2 (g_range (g_inlt h2)) ?_
    refine g_getf (n_q md_13 rfl) (te_6 ph1 (g_inlt h2)) rfl ?_
    refine g_go 1 md_13 (i1 := 19) rfl ?_
    refine g_getr 83 (n_q md_13 rfl) t_77 rfl ?_
    refine g_go 1 md_13 (i1 := 21) rfl ?_
    refine g_iald (n_q md_13 rfl) t_83 h2 ?_
    refine g_go 1 md_13 (i1 := 23) rfl ?_
    refine n_min (n_q md_13 rfl) (by omega) (Nat.le_of_ble_eq_true rfl) ?_
    obtain ⟨s3, es3, H⟩ := g_letp H
    refine g_iast (n_q md_13 rfl) t_80 h2 es3 ?_
    refine g_go 1 md_13 (i1 := 26) rfl ?_
    refine g_getr 79 (n_q md_13 rfl) t_77 rfl ?_
    refine g_go 1 md_13 (i1 := 28) rfl ?_
    refine g_iald (n_q md_13 rfl) t_79 h2 ?_
    by_cases h4 : 0 < (s3 79 x2.toNatClampNeg)
    · rw [if_pos h4] at H
      refine n_ifF (n_q md_13 rfl) (fun e1 => absurd (of_decide_eq_true e1) (Int32.not_le.mpr h4)) ?_
      refine g_go 1 md_13 (i1 := 31) rfl ?_
      refine g_getr 83 (n_q md_13 rfl) t_77 rfl ?_
      refine g_go 1 md_13 (i1 := 33) rfl ?_
      refine g_getr 79 (n_q md_13 rfl) t_77 rfl ?_
      refine g_go 1 md_13 (i1 := 35) rfl ?_
      refine g_iald (n_q md_13 rfl) t_79 h2 ?_
      refine g_go 1 md_13 (i1 := 37) rfl ?_
      obtain ⟨h5, H⟩ := g_gd H
      refine g_iald (n_q md_13 rfl) t_83 h5 ?_
      refine g_go 1 md_13 (i1 := 39) rfl ?_
      refine g_getr 80 (n_q md_13 rfl) t_77 rfl ?_
      refine g_go 1 md_13 (i1 := 41) rfl ?_
      refine g_iald (n_q md_13 rfl) t_80 h2 ?_
      refine g_go 1 md_13 (i1 := 43) rfl ?_
      obtain ⟨s6, es6, H⟩ := g_letp H
      refine g_iast (n_q md_13 rfl) t_83 h5 es6 ?_
      refine g_go 2 md_13 (i1 := 3) (ls1 := [some (.ref 77), some (.ref p1), some (.int (x2 + (-1)))]) rfl ?_
      cases H
      exact K0 (x2 + (-1), s6) rfl
    · rw [if_neg h4] at H
      refine n_ifT (n_q md_13 rfl) (decide_eq_true (Int32.not_lt.mp h4)) ?_
      refine g_go 2 md_13 (i1 := 3) (ls1 := [some (.ref 77), some (.ref p1), some (.int (x2 + (-1)))]) rfl ?_
      cases H
      exact K0 (x2 + (-1), s3) rfl
noncomputable def f13_3L (s : g_S) (p1 : Nat) (x2 : Int32) : Option (g_S) := g_run (fun S : Int32 × g_S => f13_3 S.2 p1 S.1) (x2, s)
theorem f13_3L_eq (s : g_S) (p1 : Nat) (x2 : Int32) : f13_3L s p1 x2 = g_st (f13_3 s p1 x2) (fun S => f13_3L S.2 p1 S.1) := by
  unfold f13_3L
  exact g_run_eq _ _
theorem P13_3L {d ex : Nat} {s : g_S} {p1 : Nat} {x2 : Int32} (ph1 : g_lay p1 = o_0 p1)  {z : (g_S)} (H : f13_3L s p1 x2 = some z) (hd : 12 ≤ d)  : n_R X (d + 1) 13 3 [some (.ref 77), some (.ref p1), some (.int x2)] [] (g_M s ex) (g_rSV z ex) := by
  unfold f13_3L at H
  refine g_rs (Q := fun S => n_R X (d + 1) 13 3 [some (.ref 77), some (.ref p1), some (.int S.1)] [] (g_M S.2 ex) (g_rSV z ex)) H ?_
  intro S w hb K0 KK
  refine P13_3 ph1 hb hd ?_ ?_
  · exact fun S1 e1 => K0 S1 e1
  · exact fun q e1 => by rw [KK q e1]
noncomputable def f13 (s : g_S) (p1 : Nat) : Option (g_S) := (f13_3L s p1 (s 77 7))
theorem C13 {d ex : Nat} {s : g_S} {p1 : Nat} (ph1 : g_lay p1 = o_0 p1) {z : g_S} (hd : 12 < d) (H : f13 s p1 = some z) : n_C X d 13 [.ref 77, .ref p1] (g_M s ex) (g_rSV z ex) := by
  obtain ⟨d, rfl⟩ : ∃ d1, d = d1 + 1 := ⟨d - 1, by omega⟩
  replace hd := Nat.le_of_lt_succ hd
  refine ⟨Nat.le_of_ble_eq_true rfl, ?_⟩
  rw [md_13]
  show n_R X (d + 1) 13 0 [some (.ref 77), some (.ref p1), none] [] (g_M s ex) _
  unfold f13 at H
  refine g_go 1 md_13 (i1 := 1) rfl ?_
  refine g_getf (n_q md_13 rfl) t_77 rfl ?_
  refine g_go 1 md_13 (i1 := 3) (ls1 := [some (.ref 77), some (.ref p1), some (.int (s 77 7))]) rfl ?_
  exact P13_3L ph1 H hd

theorem md_14 : m_md 14 = m_X1_payOwner := rfl
noncomputable def f14_2 (s : g_S) (p1 : Int32) (x2 : Int32) : Option ((Int32 × g_S) ⊕ (g_S)) := (if (s 77 7) < x2 then (some (.inr (s))) else (if m_in x2 13 = true then if (s 79 x2.toNatClampNeg) = 0 then (g_let (g_w s 80 x2.toNatClampNeg (g_min (s 80 x2.toNatClampNeg) (p1 - (s 83 0)))) fun s4 => g_let (g_w s4 83 0 ((s4 83 0) + (s4 80 x2.toNatClampNeg))) fun s5 => some (.inl (x2 + 1, s5))) else (some (.inl (x2 + 1, s))) else none))
theorem P14_2 {d ex : Nat} {rr : m_R} {s : g_S} {p1 : Int32} {x2 : Int32}   {z : ((Int32 × g_S) ⊕ (g_S))} (H : f14_2 s p1 x2 = some z) (hd : 12 ≤ d) (K0 : ∀ S : Int32 × g_S, z = .inl S → n_R X (d + 1) 14 2 [some (.ref 77), some (.int p1), some (.int S.1)] [] (g_M S.2 ex) rr) (Kr : ∀ q, z = .inr (q) → g_rSV q ex = rr) : n_R X (d + 1) 14 2 [some (.ref 77), some (.int p1), some (.int x2)] [] (g_M s ex) rr := by
  unfold f14_2 at H
  refine g_go 2 md_14 (i1 := 4) rfl ?_
  refine g_getf (n_q md_14 rfl) t_77 rfl ?_
  by_cases h1 : (s 77 7) < x2
  · rw [if_pos h1] at H
    refine n_cmpT (n_q md_14 rfl) (decide_eq_true h1) ?_
    cases H
    rw [← Kr _ rfl]
    exact n_end (n_q md_14 rfl) (fun _ => rfl)
  · rw [if_neg h1] at H
    refine n_cmpF (n_q md_14 rfl) (fun e1 => h1 (of_decide_eq_true e1)) ?_
    refine g_go 1 md_14 (i1 := 7) rfl ?_
    refine g_getr 79 (n_q md_14 rfl) t_77 rfl ?_
    refine g_go 1 md_14 (i1 := 9) rfl ?_
    obtain ⟨h2, H⟩ := g_gd H
    refine g_iald (n_q md_14 rfl) t_79 h2 ?_
    by_cases h3 : (s 79 x2.toNatClampNeg) = 0
    · rw [if_pos h3] at H
      refine n_ifF (n_q md_14 rfl) (fun e1 => of_decide_eq_true e1 h3) ?_
      refine g_go 1 md_14 (i1 := 12) rfl ?_
      refine g_getr 80 (n_q md_14 rfl) t_77 rfl ?_
      refine g_go 2 md_14 (i1 := 15) rfl ?_
      refine g_getr 80 (n_q md_14 rfl) t_77 rfl ?_
      refine g_go 1 md_14 (i1 := 17) rfl ?_
      refine g_iald (n_q md_14 rfl) t_80 h2 ?_
      refine g_go 2 md_14 (i1 := 20) rfl ?_
      refine g_getr 83 (n_q md_14 rfl) t_77 rfl ?_
      refine g_go 1 md_14 (i1 := 22) rfl ?_
      refine g_iald (n_q md_14 rfl) t_83 (rfl : m_in 0 13 = true) ?_
      refine g_go 1 md_14 (i1 := 24) rfl ?_
      refine n_min (n_q md_14 rfl) (by omega) (Nat.le_of_ble_eq_true rfl) ?_
      obtain ⟨s4, es4, H⟩ := g_letp H
      refine g_iast (n_q md_14 rfl) t_80 h2 es4 ?_
      refine g_go 1 md_14 (i1 := 27) rfl ?_
      refine g_getr 83 (n_q md_14 rfl) t_77 rfl ?_
      refine g_go 2 md_14 (i1 := 30) rfl ?_
      refine g_iald (n_q md_14 rfl) t_83 (rfl : m_in 0 13 = true) ?_
      refine g_go 1 md_14 (i1 := 32) rfl ?_
      refine g_getr 80 (n_q md_14 rfl) t_77 rfl ?_
      refine g_go 1 md_14 (i1 := 34) rfl ?_
      refine g_iald (n_q md_14 rfl) t_80 h2 ?_
      refine g_go 1 md_14 (i1 := 36) rfl ?_
      obtain ⟨s5, es5, H⟩ := g_letp H
      refine g_iast (n_q md_14 rfl) t_83 (rfl : m_in 0 13 = true) es5 ?_
      refine g_go 2 md_14 (i1 := 2) (ls1 := [some (.ref 77), some (.int p1), some (.int (x2 + 1))]) rfl ?_
      cases H
      exact K0 (x2 + 1, s5) rfl
    · rw [if_neg h3] at H
      refine n_ifT (n_q md_14 rfl) (decide_eq_true h3) ?_
      refine g_go 2 md_14 (i1 := 2) (ls1 := [some (.ref 77), some (.int p1), some (.int (x2 + 1))]) rfl ?_
      cases H
      exact K0 (x2 + 1, s) rfl
noncomputable def f14_2L (s : g_S) (p1 : Int32) (x2 : Int32) : Option (g_S) := g_run (fun S : Int32 × g_S => f14_2 S.2 p1 S.1) (x2, s)
theorem f14_2L_eq (s : g_S) (p1 : Int32) (x2 : Int32) : f14_2L s p1 x2 = g_st (f14_2 s p1 x2) (fun S => f14_2L S.2 p1 S.1) := by
  unfold f14_2L
  exact g_run_eq _ _
theorem P14_2L {d ex : Nat} {s : g_S} {p1 : Int32} {x2 : Int32}   {z : (g_S)} (H : f14_2L s p1 x2 = some z) (hd : 12 ≤ d)  : n_R X (d + 1) 14 2 [some (.ref 77), some (.int p1), some (.int x2)] [] (g_M s ex) (g_rSV z ex) := by
  unfold f14_2L at H
  refine g_rs (Q := fun S => n_R X (d + 1) 14 2 [some (.ref 77), some (.int p1), some (.int S.1)] [] (g_M S.2 ex) (g_rSV z ex)) H ?_
  intro S w hb K0 KK
  refine P14_2 hb hd ?_ ?_
  · exact fun S1 e1 => K0 S1 e1
  · exact fun q e1 => by rw [KK q e1]
noncomputable def f14 (s : g_S) (p1 : Int32) : Option (g_S) := (f14_2L s p1 1)
theorem C14 {d ex : Nat} {s : g_S} {p1 : Int32}  {z : g_S} (hd : 12 < d) (H : f14 s p1 = some z) : n_C X d 14 [.ref 77, .int p1] (g_M s ex) (g_rSV z ex) := by
  obtain ⟨d, rfl⟩ : ∃ d1, d = d1 + 1 := ⟨d - 1, by omega⟩
  replace hd := Nat.le_of_lt_succ hd
  refine ⟨Nat.le_of_ble_eq_true rfl, ?_⟩
  rw [md_14]
  show n_R X (d + 1) 14 0 [some (.ref 77), some (.int p1), none] [] (g_M s ex) _
  unfold f14 at H
  refine g_go 2 md_14 (i1 := 2) (ls1 := [some (.ref 77), some (.int p1), some (.int 1)]) rfl ?_
  exact P14_2L H hd

theorem md_10 : m_md 10 = m_X1_reckon := rfl
noncomputable def f10_44 (s : g_S) (p1 : Nat) (p2 : Nat) (x3 : Int32) : Option ((Int32 × g_S) ⊕ (g_S)) := (if (s 77 7) < x3 then (some (.inr (s))) else (if m_in x3 13 = true then g_let (g_w s 81 x3.toNatClampNeg ((s 80 x3.toNatClampNeg) - (s 83 x3.toNatClampNeg))) fun s3 => some (.inl (x3 + 1, s3)) else none))
theorem P10_44 {d ex : Nat} {rr : m_R} {s : g_S} {p1 : Nat} {p2 : Nat} {x3 : Int32} (ph1 : g_lay p1 = o_0 p1) (ph2 : g_lay p2 = o_4 p2)  {z : ((Int32 × g_S) ⊕ (g_S))} (H : f10_44 s p1 p2 x3 = some z) (hd : 16 ≤ d) (K0 : ∀ S : Int32 × g_S, z = .inl S → n_R X (d + 1) 10 44 [some (.ref 77), some (.ref p1), some (.ref p2), some (.int S.1)] [] (g_M S.2 ex) rr) (Kr : ∀ q, z = .inr (q) → g_rSV q ex = rr) : n_R X (d + 1) 10 44 [some (.ref 77), some (.ref p1), some (.ref p2), some (.int x3)] [] (g_M s ex) rr := by
  unfold f10_44 at H
  refine g_go 2 md_10 (i1 := 46) rfl ?_
  refine g_getf (n_q md_10 rfl) t_77 rfl ?_
  by_cases h1 : (s 77 7) < x3
  · rw [if_pos h1] at H
    refine n_cmpT (n_q md_10 rfl) (decide_eq_true h1) ?_
    cases H
    rw [← Kr _ rfl]
    exact n_end (n_q md_10 rfl) (fun _ => rfl)
  · rw [if_neg h1] at H
    refine n_cmpF (n_q md_10 rfl) (fun e1 => h1 (of_decide_eq_true e1)) ?_
    refine g_go 1 md_10 (i1 := 49) rfl ?_
    refine g_getr 81 (n_q md_10 rfl) t_77 rfl ?_
    refine g_go 2 md_10 (i1 := 52) rfl ?_
    refine g_getr 80 (n_q md_10 rfl) t_77 rfl ?_
    refine g_go 1 md_10 (i1 := 54) rfl ?_
    obtain ⟨h2, H⟩ := g_gd H
    refine g_iald (n_q md_10 rfl) t_80 h2 ?_
    refine g_go 1 md_10 (i1 := 56) rfl ?_
    refine g_getr 83 (n_q md_10 rfl) t_77 rfl ?_
    refine g_go 1 md_10 (i1 := 58) rfl ?_
    refine g_iald (n_q md_10 rfl) t_83 h2 ?_
    refine g_go 1 md_10 (i1 := 60) rfl ?_
    obtain ⟨s3, es3, H⟩ := g_letp H
    refine g_iast (n_q md_10 rfl) t_81 h2 es3 ?_
    refine g_go 2 md_10 (i1 := 44) (ls1 := [some (.ref 77), some (.ref p1), some (.ref p2), some (.int (x3 + 1))]) rfl ?_
    cases H
    exact K0 (x3 + 1, s3) rfl
noncomputable def f10_44L (s : g_S) (p1 : Nat) (p2 : Nat) (x3 : Int32) : Option (g_S) := g_run (fun S : Int32 × g_S => f10_44 S.2 p1 p2 S.1) (x3, s)
theorem f10_44L_eq (s : g_S) (p1 : Nat) (p2 : Nat) (x3 : Int32) : f10_44L s p1 p2 x3 = g_st (f10_44 s p1 p2 x3) (fun S => f10_44L S.2 p1 p2 S.1) := by
  unfold f10_44L
  exact g_run_eq _ _
theorem P10_44L {d ex : Nat} {s : g_S} {p1 : Nat} {p2 : Nat} {x3 : Int32} (ph1 : g_lay p1 = o_0 p1) (ph2 : g_lay p2 = o_4 p2)  {z : (g_S)} (H : f10_44L s p1 p2 x3 = some z) (hd : 16 ≤ d)  : n_R X (d + 1) 10 44 [some (.ref 77), some (.ref p1), some (.ref p2), some (.int x3)] [] (g_M s ex) (g_rSV z ex) := by
  unfold f10_44L at H
  refine g_rs (Q := fun S => n_R X (d + 1) 10 44 [some (.ref 77), some (.ref p1), some (.ref p2), some (.int S.1)] [] (g_M S.2 ex) (g_rSV z ex)) H ?_
  intro S w hb K0 KK
  refine P10_44 ph1 ph2 hb hd ?_ ?_
  · exact fun S1 e1 => K0 S1 e1
  · exact fun q e1 => by rw [KK q e1]
noncomputable def f10_24 (s : g_S) (p1 : Nat) (p2 : Nat) : Option (g_S) := ((f13 s p1).bind fun s2 => (f14 s2 (s2 p1 2)).bind fun s4 => g_let (g_w s4 81 0 ((s4 p1 2) - (s4 83 0))) fun s5 => f10_44L s5 p1 p2 1)
theorem P10_24 {d ex : Nat} {s : g_S} {p1 : Nat} {p2 : Nat} {u3 : Option Value} (ph1 : g_lay p1 = o_0 p1) (ph2 : g_lay p2 = o_4 p2)  {z : (g_S)} (H : f10_24 s p1 p2 = some z) (hd : 16 ≤ d)  : n_R X (d + 1) 10 24 [some (.ref 77), some (.ref p1), some (.ref p2), u3] [] (g_M s ex) (g_rSV z ex) := by
  unfold f10_24 at H
  refine g_go 2 md_10 (i1 := 26) rfl ?_
  obtain ⟨s2, hs2, H⟩ := g_bind H
  refine n_call (n_q md_10 rfl) (As := [.ref 77, .ref p1]) (rest := []) rfl rfl (Nat.le_of_ble_eq_true rfl) rfl (g_recv (b := 0) rfl t_77 rfl) (C13 ph1 (by omega) hs2) ?_
  refine g_go 2 md_10 (i1 := 29) rfl ?_
  refine g_getf (n_q md_10 rfl) ph1 rfl ?_
  obtain ⟨s4, hs4, H⟩ := g_bind H
  refine n_call (n_q md_10 rfl) (As := [.ref 77, .int (s2 p1 2)]) (rest := []) rfl rfl (Nat.le_of_ble_eq_true rfl) rfl (g_recv (b := 0) rfl t_77 rfl) (C14 (by omega) hs4) ?_
  refine g_go 1 md_10 (i1 := 32) rfl ?_
  refine g_getr 81 (n_q md_10 rfl) t_77 rfl ?_
  refine g_go 2 md_10 (i1 := 35) rfl ?_
  refine g_getf (n_q md_10 rfl) ph1 rfl ?_
  refine g_go 1 md_10 (i1 := 37) rfl ?_
  refine g_getr 83 (n_q md_10 rfl) t_77 rfl ?_
  refine g_go 1 md_10 (i1 := 39) rfl ?_
  refine g_iald (n_q md_10 rfl) t_83 (rfl : m_in 0 13 = true) ?_
  refine g_go 1 md_10 (i1 := 41) rfl ?_
  obtain ⟨s5, es5, H⟩ := g_letp H
  refine g_iast (n_q md_10 rfl) t_81 (rfl : m_in 0 13 = true) es5 ?_
  refine g_go 2 md_10 (i1 := 44) (ls1 := [some (.ref 77), some (.ref p1), some (.ref p2), some (.int 1)]) rfl ?_
  exact P10_44L ph1 ph2 H hd
noncomputable def f10_13 (s : g_S) (p1 : Nat) (p2 : Nat) (x3 : Int32) : Option ((Int32 × g_S) ⊕ (g_S)) := (if (s 77 7) < x3 then (Option.map (fun w => (.inr (w) : ((Int32 × g_S) ⊕ (g_S)))) (f10_24 s p1 p2)) else ((f12 s x3 p1 p2).bind fun s3 => some (.inl (x3 + 1, s3))))
theorem P10_13 {d ex : Nat} {rr : m_R} {s : g_S} {p1 : Nat} {p2 : Nat} {x3 : Int32} (ph1 : g_lay p1 = o_0 p1) (ph2 : g_lay p2 = o_4 p2)  {z : ((Int32 × g_S) ⊕ (g_S))} (H : f10_13 s p1 p2 x3 = some z) (hd : 16 ≤ d) (K0 : ∀ S : Int32 × g_S, z = .inl S → n_R X (d + 1) 10 13 [some (.ref 77), some (.ref p1), some (.ref p2), some (.int S.1)] [] (g_M S.2 ex) rr) (Kr : ∀ q, z = .inr (q) → g_rSV q ex = rr) : n_R X (d + 1) 10 13 [some (.ref 77), some (.ref p1), some (.ref p2), some (.int x3)] [] (g_M s ex) rr := by
  unfold f10_13 at H
  refine g_go 2 md_10 (i1 := 15) rfl ?_
  refine g_getf (n_q md_10 rfl) t_77 rfl ?_
  by_cases h1 : (s 77 7) < x3
  · rw [if_pos h1] at H
    refine n_cmpT (n_q md_10 rfl) (decide_eq_true h1) ?_
    obtain ⟨w, hw, H⟩ := g_mapp H
    subst H
    rw [← Kr _ rfl]
    exact P10_24 ph1 ph2 hw hd
  · rw [if_neg h1] at H
    refine n_cmpF (n_q md_10 rfl) (fun e1 => h1 (of_decide_eq_true e1)) ?_
    refine g_go 4 md_10 (i1 := 21) rfl ?_
    obtain ⟨s3, hs3, H⟩ := g_bind H
    refine n_call (n_q md_10 rfl) (As := [.ref 77, .int x3, .ref p1, .ref p2]) (rest := []) rfl rfl (Nat.le_of_ble_eq_true rfl) rfl (g_recv (b := 0) rfl t_77 rfl) (C12 ph1 ph2 (by omega) hs3) ?_
    refine g_go 2 md_10 (i1 := 13) (ls1 := [some (.ref 77), some (.ref p1), some (.ref p2), some (.int (x3 + 1))]) rfl ?_
    cases H
    exact K0 (x3 + 1, s3) rfl
noncomputable def f10_13L (s : g_S) (p1 : Nat) (p2 : Nat) (x3 : Int32) : Option (g_S) := g_run (fun S : Int32 × g_S => f10_13 S.2 p1 p2 S.1) (x3, s)
theorem f10_13L_eq (s : g_S) (p1 : Nat) (p2 : Nat) (x3 : Int32) : f10_13L s p1 p2 x3 = g_st (f10_13 s p1 p2 x3) (fun S => f10_13L S.2 p1 p2 S.1) := by
  unfold f10_13L
  exact g_run_eq _ _
theorem P10_13L {d ex : Nat} {s : g_S} {p1 : Nat} {p2 : Nat} {x3 : Int32} (ph1 : g_lay p1 = o_0 p1) (ph2 : g_lay p2 = o_4 p2)  {z : (g_S)} (H : f10_13L s p1 p2 x3 = some z) (hd : 16 ≤ d)  : n_R X (d + 1) 10 13 [some (.ref 77), some (.ref p1), some (.ref p2), some (.int x3)] [] (g_M s ex) (g_rSV z ex) := by
  unfold f10_13L at H
  refine g_rs (Q := fun S => n_R X (d + 1) 10 13 [some (.ref 77), some (.ref p1), some (.ref p2), some (.int S.1)] [] (g_M S.2 ex) (g_rSV z ex)) H ?_
  intro S w hb K0 KK
  refine P10_13 ph1 ph2 hb hd ?_ ?_
  · exact fun S1 e1 => K0 S1 e1
  · exact fun q e1 => by rw [KK q e1]
noncomputable def f10 (s : g_S) (p1 : Nat) (p2 : Nat) : Option (g_S) := ((f11 s).bind fun s2 => (f2 s2 p1).bind fun v3 => g_let (g_w s2 77 7 v3) fun s4 => if (s4 77 7) = ((-1)) then (some s4) else (f10_13L s4 p1 p2 1))
theorem C10 {d ex : Nat} {s : g_S} {p1 : Nat} {p2 : Nat} (ph1 : g_lay p1 = o_0 p1) (ph2 : g_lay p2 = o_4 p2) {z : g_S} (hd : 16 < d) (H : f10 s p1 p2 = some z) : n_C X d 10 [.ref 77, .ref p1, .ref p2] (g_M s ex) (g_rSV z ex) := by
  obtain ⟨d, rfl⟩ : ∃ d1, d = d1 + 1 := ⟨d - 1, by omega⟩
  replace hd := Nat.le_of_lt_succ hd
  refine ⟨Nat.le_of_ble_eq_true rfl, ?_⟩
  rw [md_10]
  show n_R X (d + 1) 10 0 [some (.ref 77), some (.ref p1), some (.ref p2), none] [] (g_M s ex) _
  unfold f10 at H
  refine g_go 1 md_10 (i1 := 1) rfl ?_
  obtain ⟨s2, hs2, H⟩ := g_bind H
  refine n_call (n_q md_10 rfl) (As := [.ref 77]) (rest := []) rfl rfl (Nat.le_of_ble_eq_true rfl) rfl (g_recv (b := 0) rfl t_77 rfl) (C11 (by omega) hs2) ?_
  refine g_go 2 md_10 (i1 := 4) rfl ?_
  obtain ⟨v3, hv3, H⟩ := g_bind H
  refine n_callv (n_q md_10 rfl) (As := [.ref p1]) (rest := [.ref 77]) rfl rfl (Nat.le_of_ble_eq_true rfl) rfl (g_recv (b := 0) rfl ph1 rfl) (C2 ph1 (by omega) hv3) ?_
  obtain ⟨s4, es4, H⟩ := g_letp H
  refine g_putf (n_q md_10 rfl) t_77 rfl rfl es4 ?_
  refine g_go 1 md_10 (i1 := 7) rfl ?_
  refine g_getf (n_q md_10 rfl) t_77 rfl ?_
  refine g_go 1 md_10 (i1 := 9) rfl ?_
  by_cases h5 : (s4 77 7) = ((-1))
  · rw [if_pos h5] at H
    refine n_cmpF (n_q md_10 rfl) (fun e1 => of_decide_eq_true e1 h5) ?_
    cases H
    exact n_end (n_q md_10 rfl) (fun _ => rfl)
  · rw [if_neg h5] at H
    refine n_cmpT (n_q md_10 rfl) (decide_eq_true h5) ?_
    refine g_go 2 md_10 (i1 := 13) (ls1 := [some (.ref 77), some (.ref p1), some (.ref p2), some (.int 1)]) rfl ?_
    exact P10_13L ph1 ph2 H hd

theorem md_15 : m_md 15 = m_X1_titleFor := rfl
noncomputable def f15_31 (s : g_S) (p1 : Int32) (x2 : Int32) (x3 : Int32) (y0 : Int32) : Option ((Int32 × Int32) ⊕ (Int32)) := (if y0 = 0 then (some (.inl (x2, x3 + 1))) else (if m_in x3 13 = true then if (s 79 x3.toNatClampNeg) = x2 then (some (.inl (x3, x3 + 1))) else (some (.inl (x2, x3 + 1))) else none))
theorem P15_31 {d ex : Nat} {rr : m_R} {s : g_S} {p1 : Int32} {x2 : Int32} {x3 : Int32} {y0 : Int32} {u4 : Option Value}   {z : ((Int32 × Int32) ⊕ (Int32))} (H : f15_31 s p1 x2 x3 y0 = some z) (hd : 12 ≤ d) (K0 : ∀ S : Int32 × Int32, z = .inl S → ∀ u4 : Option Value, n_R X (d + 1) 15 4 [some (.ref 77), some (.int p1), some (.int S.1), some (.int S.2), u4] [] (g_M s ex) rr) (Kr : ∀ q, z = .inr (q) → g_rPI s q ex = rr) : n_R X (d + 1) 15 31 [some (.ref 77), some (.int p1), some (.int x2), some (.int x3), u4] [.int y0] (g_M s ex) rr := by
  unfold f15_31 at H
  refine g_go 2 md_15 (i1 := 33) (ls1 := [some (.ref 77), some (.int p1), some (.int x2), some (.int x3), some (.int y0)]) rfl ?_
  by_cases h1 : y0 = 0
  · rw [if_pos h1] at H
    refine n_ifT (n_q md_15 rfl) (decide_eq_true h1) ?_
    refine g_go 2 md_15 (i1 := 4) (ls1 := [some (.ref 77), some (.int p1), some (.int x2), some (.int (x3 + 1)), some (.int y0)]) rfl ?_
    cases H
    exact K0 (x2, x3 + 1) rfl _
  · rw [if_neg h1] at H
    refine n_ifF (n_q md_15 rfl) (fun e1 => h1 (of_decide_eq_true e1)) ?_
    refine g_go 1 md_15 (i1 := 35) rfl ?_
    refine g_getr 79 (n_q md_15 rfl) t_77 rfl ?_
    refine g_go 1 md_15 (i1 := 37) rfl ?_
    obtain ⟨h2, H⟩ := g_gd H
    refine g_iald (n_q md_15 rfl) t_79 h2 ?_
    refine g_go 1 md_15 (i1 := 39) rfl ?_
    by_cases h3 : (s 79 x3.toNatClampNeg) = x2
    · rw [if_pos h3] at H
      refine n_cmpF (n_q md_15 rfl) (fun e1 => of_decide_eq_true e1 h3) ?_
      refine g_go 4 md_15 (i1 := 4) (ls1 := [some (.ref 77), some (.int p1), some (.int x3), some (.int (x3 + 1)), some (.int y0)]) rfl ?_
      cases H
      exact K0 (x3, x3 + 1) rfl _
    · rw [if_neg h3] at H
      refine n_cmpT (n_q md_15 rfl) (decide_eq_true h3) ?_
      refine g_go 2 md_15 (i1 := 4) (ls1 := [some (.ref 77), some (.int p1), some (.int x2), some (.int (x3 + 1)), some (.int y0)]) rfl ?_
      cases H
      exact K0 (x2, x3 + 1) rfl _
noncomputable def f15_30 (s : g_S) (p1 : Int32) (x2 : Int32) (x3 : Int32) : Option ((Int32 × Int32) ⊕ (Int32)) := (f15_31 s p1 x2 x3 0)
theorem P15_30 {d ex : Nat} {rr : m_R} {s : g_S} {p1 : Int32} {x2 : Int32} {x3 : Int32} {u4 : Option Value}   {z : ((Int32 × Int32) ⊕ (Int32))} (H : f15_30 s p1 x2 x3 = some z) (hd : 12 ≤ d) (K0 : ∀ S : Int32 × Int32, z = .inl S → ∀ u4 : Option Value, n_R X (d + 1) 15 4 [some (.ref 77), some (.int p1), some (.int S.1), some (.int S.2), u4] [] (g_M s ex) rr) (Kr : ∀ q, z = .inr (q) → g_rPI s q ex = rr) : n_R X (d + 1) 15 30 [some (.ref 77), some (.int p1), some (.int x2), some (.int x3), u4] [] (g_M s ex) rr := by
  unfold f15_30 at H
  refine g_go 1 md_15 (i1 := 31) rfl ?_
  exact P15_31 H hd K0 Kr
noncomputable def f15_4 (s : g_S) (p1 : Int32) (x2 : Int32) (x3 : Int32) : Option ((Int32 × Int32) ⊕ (Int32)) := (if (s 77 7) < x3 then (some (.inr (x2))) else (if m_in x3 13 = true then if 0 < (s 78 x3.toNatClampNeg) then (if (s 78 x3.toNatClampNeg) < p1 then (f15_30 s p1 x2 x3) else (if (s 80 x3.toNatClampNeg) = (s 78 x3.toNatClampNeg) then (f15_31 s p1 x2 x3 1) else (f15_30 s p1 x2 x3))) else (f15_30 s p1 x2 x3) else none))
theorem P15_4 {d ex : Nat} {rr : m_R} {s : g_S} {p1 : Int32} {x2 : Int32} {x3 : Int32} {u4 : Option Value}   {z : ((Int32 × Int32) ⊕ (Int32))} (H : f15_4 s p1 x2 x3 = some z) (hd : 12 ≤ d) (K0 : ∀ S : Int32 × Int32, z = .inl S → ∀ u4 : Option Value, n_R X (d + 1) 15 4 [some (.ref 77), some (.int p1), some (.int S.1), some (.int S.2), u4] [] (g_M s ex) rr) (Kr : ∀ q, z = .inr (q) → g_rPI s q ex = rr) : n_R X (d + 1) 15 4 [some (.ref 77), some (.int p1), some (.int x2), some (.int x3), u4] [] (g_M s ex) rr := by
  unfold f15_4 at H
  refine g_go 2 md_15 (i1 := 6) rfl ?_
  refine g_getf (n_q md_15 rfl) t_77 rfl ?_
  by_cases h1 : (s 77 7) < x3
  · rw [if_pos h1] at H
    refine n_cmpT (n_q md_15 rfl) (decide_eq_true h1) ?_
    refine g_go 1 md_15 (i1 := 45) rfl ?_
    cases H
    rw [← Kr _ rfl]
    exact n_iret (n_q md_15 rfl) (Or.inl rfl)
  · rw [if_neg h1] at H
    refine n_cmpF (n_q md_15 rfl) (fun e1 => h1 (of_decide_eq_true e1)) ?_
    refine g_go 1 md_15 (i1 := 9) rfl ?_
    refine g_getr 78 (n_q md_15 rfl) t_77 rfl ?_
    refine g_go 1 md_15 (i1 := 11) rfl ?_
    obtain ⟨h2, H⟩ := g_gd H
    refine g_iald (n_q md_15 rfl) t_78 h2 ?_
    by_cases h3 : 0 < (s 78 x3.toNatClampNeg)
    · rw [if_pos h3] at H
      refine n_ifF (n_q md_15 rfl) (fun e1 => absurd (of_decide_eq_true e1) (Int32.not_le.mpr h3)) ?_
      refine g_go 1 md_15 (i1 := 14) rfl ?_
      refine g_getr 78 (n_q md_15 rfl) t_77 rfl ?_
      refine g_go 1 md_15 (i1 := 16) rfl ?_
      refine g_iald (n_q md_15 rfl) t_78 h2 ?_
      refine g_go 1 md_15 (i1 := 18) rfl ?_
      by_cases h4 : (s 78 x3.toNatClampNeg) < p1
      · rw [if_pos h4] at H
        refine n_cmpT (n_q md_15 rfl) (decide_eq_true h4) ?_
        exact P15_30 H hd K0 Kr
      · rw [if_neg h4] at H
        refine n_cmpF (n_q md_15 rfl) (fun e1 => h4 (of_decide_eq_true e1)) ?_
        refine g_go 1 md_15 (i1 := 20) rfl ?_
        refine g_getr 80 (n_q md_15 rfl) t_77 rfl ?_
        refine g_go 1 md_15 (i1 := 22) rfl ?_
        refine g_iald (n_q md_15 rfl) t_80 h2 ?_
        refine g_go 1 md_15 (i1 := 24) rfl ?_
        refine g_getr 78 (n_q md_15 rfl) t_77 rfl ?_
        refine g_go 1 md_15 (i1 := 26) rfl ?_
        refine g_iald (n_q md_15 rfl) t_78 h2 ?_
        by_cases h5 : (s 80 x3.toNatClampNeg) = (s 78 x3.toNatClampNeg)
        · rw [if_pos h5] at H
          refine n_cmpF (n_q md_15 rfl) (fun e1 => of_decide_eq_true e1 h5) ?_
          refine g_go 2 md_15 (i1 := 31) rfl ?_
          exact P15_31 H hd K0 Kr
        · rw [if_neg h5] at H
          refine n_cmpT (n_q md_15 rfl) (decide_eq_true h5) ?_
          exact P15_30 H hd K0 Kr
    · rw [if_neg h3] at H
      refine n_ifT (n_q md_15 rfl) (decide_eq_true (Int32.not_lt.mp h3)) ?_
      exact P15_30 H hd K0 Kr
noncomputable def f15_4L (s : g_S) (p1 : Int32) (x2 : Int32) (x3 : Int32) : Option (Int32) := g_run (fun S : Int32 × Int32 => f15_4 s p1 S.1 S.2) (x2, x3)
theorem f15_4L_eq (s : g_S) (p1 : Int32) (x2 : Int32) (x3 : Int32) : f15_4L s p1 x2 x3 = g_st (f15_4 s p1 x2 x3) (fun S => f15_4L s p1 S.1 S.2) := by
  unfold f15_4L
  exact g_run_eq _ _
theorem P15_4L {d ex : Nat} {s : g_S} {p1 : Int32} {x2 : Int32} {x3 : Int32} {u4 : Option Value}   {z : (Int32)} (H : f15_4L s p1 x2 x3 = some z) (hd : 12 ≤ d)  : n_R X (d + 1) 15 4 [some (.ref 77), some (.int p1), some (.int x2), some (.int x3), u4] [] (g_M s ex) (g_rPI s z ex) := by
  unfold f15_4L at H
  refine g_rs (Q := fun S => ∀ u4 : Option Value, n_R X (d + 1) 15 4 [some (.ref 77), some (.int p1), some (.int S.1), some (.int S.2), u4] [] (g_M s ex) (g_rPI s z ex)) H ?_ u4
  intro S w hb K0 KK u4
  refine P15_4 hb hd ?_ ?_
  · exact fun S1 e1 => K0 S1 e1
  · exact fun q e1 => by rw [KK q e1]
noncomputable def f15 (s : g_S) (p1 : Int32) : Option (Int32) := (f15_4L s p1 0 1)
theorem C15 {d ex : Nat} {s : g_S} {p1 : Int32}  {z : Int32} (hd : 12 < d) (H : f15 s p1 = some z) : n_C X d 15 [.ref 77, .int p1] (g_M s ex) (g_rPI s z ex) := by
  obtain ⟨d, rfl⟩ : ∃ d1, d = d1 + 1 := ⟨d - 1, by omega⟩
  replace hd := Nat.le_of_lt_succ hd
  refine ⟨Nat.le_of_ble_eq_true rfl, ?_⟩
  rw [md_15]
  show n_R X (d + 1) 15 0 [some (.ref 77), some (.int p1), none, none, none] [] (g_M s ex) _
  unfold f15 at H
  refine g_go 4 md_15 (i1 := 4) (ls1 := [some (.ref 77), some (.int p1), some (.int 0), some (.int 1), none]) rfl ?_
  exact P15_4L H hd

noncomputable def f18 (s : g_S) (p0 : Nat) (p1 : Int32) (p2 : Int32) : Option (Int32 × g_S) := (if (s p0 0) < 20 then (if m_in (s p0 0) 20 = true then g_let (g_w s (p0 + 1) (s p0 0).toNatClampNeg p1) fun s3 => if m_in (s3 p0 0) 20 = true then g_let (g_w s3 (p0 + 2) (s3 p0 0).toNatClampNeg p2) fun s5 => g_let (g_w s5 p0 0 ((s5 p0 0) + 1)) fun s6 => some ((1, s6)) else none else none) else (some ((0, s))))
theorem C18 {d ex : Nat} {s : g_S} {p0 : Nat} {p1 : Int32} {p2 : Int32} (ph0 : g_lay p0 = o_2 p0) {z : Int32 × g_S} (hd : 12 < d) (H : f18 s p0 p1 p2 = some z) : n_C X d 18 [.ref p0, .int p1, .int p2] (g_M s ex) (g_rSI z ex) := by
  obtain ⟨d, rfl⟩ : ∃ d1, d = d1 + 1 := ⟨d - 1, by omega⟩
  replace hd := Nat.le_of_lt_succ hd
  refine ⟨Nat.le_of_ble_eq_true rfl, ?_⟩
  rw [md_18]
  show n_R X (d + 1) 18 0 [some (.ref p0), some (.int p1), some (.int p2)] [] (g_M s ex) _
  unfold f18 at H
  refine g_go 1 md_18 (i1 := 1) rfl ?_
  refine g_getf (n_q md_18 rfl) ph0 rfl ?_
  refine g_go 1 md_18 (i1 := 3) rfl ?_
  by_cases h1 : (s p0 0) < 20
  · rw [if_pos h1] at H
    refine n_cmpT (n_q md_18 rfl) (decide_eq_true h1) ?_
    refine g_go 1 md_18 (i1 := 7) rfl ?_
    refine g_getr (p0 + 1) (n_q md_18 rfl) ph0 rfl ?_
    refine g_go 1 md_18 (i1 := 9) rfl ?_
    refine g_getf (n_q md_18 rfl) ph0 rfl ?_
    refine g_go 1 md_18 (i1 := 11) rfl ?_
    obtain ⟨h2, H⟩ := g_gd H
    obtain ⟨s3, es3, H⟩ := g_letp H
    refine g_iast (n_q md_18 rfl) (tf_2_1 ph0) h2 es3 ?_
    refine g_go 1 md_18 (i1 := 13) rfl ?_
    refine g_getr (p0 + 2) (n_q md_18 rfl) ph0 rfl ?_
    refine g_go 1 md_18 (i1 := 15) rfl ?_
    refine g_getf (n_q md_18 rfl) ph0 rfl ?_
    refine g_go 1 md_18 (i1 := 17) rfl ?_
    obtain ⟨h4, H⟩ := g_gd H
    obtain ⟨s5, es5, H⟩ := g_letp H
    refine g_iast (n_q md_18 rfl) (tf_2_2 ph0) h4 es5 ?_
    refine g_go 2 md_18 (i1 := 20) rfl ?_
    refine g_getf (n_q md_18 rfl) ph0 rfl ?_
    refine g_go 2 md_18 (i1 := 23) rfl ?_
    obtain ⟨s6, es6, H⟩ := g_letp H
    refine g_putf (n_q md_18 rfl) ph0 rfl rfl es6 ?_
    refine g_go 1 md_18 (i1 := 25) rfl ?_
    cases H
    exact n_iret (n_q md_18 rfl) (Or.inr rfl)
  · rw [if_neg h1] at H
    refine n_cmpF (n_q md_18 rfl) (fun e1 => h1 (of_decide_eq_true e1)) ?_
    refine g_go 1 md_18 (i1 := 5) rfl ?_
    cases H
    exact n_iret (n_q md_18 rfl) (Or.inr rfl)

theorem md_19 : m_md 19 = m_X2_all := rfl
noncomputable def f19_4 (s : g_S) (p0 : Nat) (x1 : Int32) (x2 : Int32) : Option ((Int32 × Int32) ⊕ (Int32)) := (if x2 < (s p0 0) then (if m_in x2 20 = true then some (.inl (x1 + (s (p0 + 2) x2.toNatClampNeg), x2 + 1)) else none) else (some (.inr (x1))))
theorem P19_4 {d ex : Nat} {rr : m_R} {s : g_S} {p0 : Nat} {x1 : Int32} {x2 : Int32} (ph0 : g_lay p0 = o_2 p0)  {z : ((Int32 × Int32) ⊕ (Int32))} (H : f19_4 s p0 x1 x2 = some z) (hd : 12 ≤ d) (K0 : ∀ S : Int32 × Int32, z = .inl S → n_R X (d + 1) 19 4 [some (.ref p0), some (.int S.1), some (.int S.2)] [] (g_M s ex) rr) (Kr : ∀ q, z = .inr (q) → g_rPI s q ex = rr) : n_R X (d + 1) 19 4 [some (.ref p0), some (.int x1), some (.int x2)] [] (g_M s ex) rr := by
  unfold f19_4 at H
  refine g_go 2 md_19 (i1 := 6) rfl ?_
  refine g_getf (n_q md_19 rfl) ph0 rfl ?_
  by_cases h1 : x2 < (s p0 0)
  · rw [if_pos h1] at H
    refine n_cmpF (n_q md_19 rfl) (fun e1 => absurd (of_decide_eq_true e1) (Int32.not_le.mpr h1)) ?_
    refine g_go 2 md_19 (i1 := 10) rfl ?_
    refine g_getr (p0 + 2) (n_q md_19 rfl) ph0 rfl ?_
    refine g_go 1 md_19 (i1 := 12) rfl ?_
    obtain ⟨h2, H⟩ := g_gd H
    refine g_iald (n_q md_19 rfl) (tf_2_2 ph0) h2 ?_
    refine g_go 4 md_19 (i1 := 4) (ls1 := [some (.ref p0), some (.int (x1 + (s (p0 + 2) x2.toNatClampNeg))), some (.int (x2 + 1))]) rfl ?_
    cases H
    exact K0 (x1 + (s (p0 + 2) x2.toNatClampNeg), x2 + 1) rfl
  · rw [if_neg h1] at H
    refine n_cmpT (n_q md_19 rfl) (decide_eq_true (Int32.not_lt.mp h1)) ?_
    refine g_go 1 md_19 (i1 := 18) rfl ?_
    cases H
    rw [← Kr _ rfl]
    exact n_iret (n_q md_19 rfl) (Or.inl rfl)
noncomputable def f19_4L (s : g_S) (p0 : Nat) (x1 : Int32) (x2 : Int32) : Option (Int32) := g_run (fun S : Int32 × Int32 => f19_4 s p0 S.1 S.2) (x1, x2)
theorem f19_4L_eq (s : g_S) (p0 : Nat) (x1 : Int32) (x2 : Int32) : f19_4L s p0 x1 x2 = g_st (f19_4 s p0 x1 x2) (fun S => f19_4L s p0 S.1 S.2) := by
  unfold f19_4L
  exact g_run_eq _ _
theorem P19_4L {d ex : Nat} {s : g_S} {p0 : Nat} {x1 : Int32} {x2 : Int32} (ph0 : g_lay p0 = o_2 p0)  {z : (Int32)} (H : f19_4L s p0 x1 x2 = some z) (hd : 12 ≤ d)  : n_R X (d + 1) 19 4 [some (.ref p0), some (.int x1), some (.int x2)] [] (g_M s ex) (g_rPI s z ex) := by
  unfold f19_4L at H
  refine g_rs (Q := fun S => n_R X (d + 1) 19 4 [some (.ref p0), some (.int S.1), some (.int S.2)] [] (g_M s ex) (g_rPI s z ex)) H ?_
  intro S w hb K0 KK
  refine P19_4 ph0 hb hd ?_ ?_
  · exact fun S1 e1 => K0 S1 e1
  · exact fun q e1 => by rw [KK q e1]
noncomputable def f19 (s : g_S) (p0 : Nat) : Option (Int32) := (f19_4L s p0 0 0)
theorem C19 {d ex : Nat} {s : g_S} {p0 : Nat} (ph0 : g_lay p0 = o_2 p0) {z : Int32} (hd : 12 < d) (H : f19 s p0 = some z) : n_C X d 19 [.ref p0] (g_M s ex) (g_rPI s z ex) := by
  obtain ⟨d, rfl⟩ : ∃ d1, d = d1 + 1 := ⟨d - 1, by omega⟩
  replace hd := Nat.le_of_lt_succ hd
  refine ⟨Nat.le_of_ble_eq_true rfl, ?_⟩
  rw [md_19]
  show n_R X (d + 1) 19 0 [some (.ref p0), none, none] [] (g_M s ex) _
  unfold f19 at H
  refine g_go 4 md_19 (i1 := 4) (ls1 := [some (.ref p0), some (.int 0), some (.int 0)]) rfl ?_
  exact P19_4L ph0 H hd

theorem md_21 : m_md 21 = m_X2_lostLast := rfl
noncomputable def f21_9 (s : g_S) (p0 : Nat) (p1 : Int32) (p2 : Int32) (x3 : Int32) (x4 : Int32) (x5 : Int32) : Option ((Int32 × Int32 × Int32) ⊕ (Int32)) := (if x5 < 0 then (some (.inr (x4))) else (if m_in x5 20 = true then if (s (p0 + 1) x5.toNatClampNeg) = p1 then (some (.inl (x3 - (g_min x3 (s (p0 + 2) x5.toNatClampNeg)), (x4 + (g_min x3 (s (p0 + 2) x5.toNatClampNeg)), x5 + (-1))))) else (some (.inl (x3 - (g_min x3 (s (p0 + 2) x5.toNatClampNeg)), (x4, x5 + (-1))))) else none))
theorem P21_9 {d ex : Nat} {rr : m_R} {s : g_S} {p0 : Nat} {p1 : Int32} {p2 : Int32} {x3 : Int32} {x4 : Int32} {x5 : Int32} {u6 : Option Value} (ph0 : g_lay p0 = o_2 p0)  {z : ((Int32 × Int32 × Int32) ⊕ (Int32))} (H : f21_9 s p0 p1 p2 x3 x4 x5 = some z) (hd : 12 ≤ d) (K0 : ∀ S : Int32 × Int32 × Int32, z = .inl S → ∀ u6 : Option Value, n_R X (d + 1) 21 9 [some (.ref p0), some (.int p1), some (.int p2), some (.int S.1), some (.int S.2.1), some (.int S.2.2), u6] [] (g_M s ex) rr) (Kr : ∀ q, z = .inr (q) → g_rPI s q ex = rr) : n_R X (d + 1) 21 9 [some (.ref p0), some (.int p1), some (.int p2), some (.int x3), some (.int x4), some (.int x5), u6] [] (g_M s ex) rr := by
  unfold f21_9 at H
  refine g_go 1 md_21 (i1 := 10) rfl ?_
  by_cases h1 : x5 < 0
  · rw [if_pos h1] at H
    refine n_ifT (n_q md_21 rfl) (decide_eq_true h1) ?_
    refine g_go 1 md_21 (i1 := 35) rfl ?_
    cases H
    rw [← Kr _ rfl]
    exact n_iret (n_q md_21 rfl) (Or.inl rfl)
  · rw [if_neg h1] at H
    refine n_ifF (n_q md_21 rfl) (fun e1 => h1 (of_decide_eq_true e1)) ?_
    refine g_go 2 md_21 (i1 := 13) rfl ?_
    refine g_getr (p0 + 2) (n_q md_21 rfl) ph0 rfl ?_
    refine g_go 1 md_21 (i1 := 15) rfl ?_
    obtain ⟨h2, H⟩ := g_gd H
    refine g_iald (n_q md_21 rfl) (tf_2_2 ph0) h2 ?_
    refine n_min (n_q md_21 rfl) (by omega) (Nat.le_of_ble_eq_true rfl) ?_
    refine g_go 6 md_21 (i1 := 23) (ls1 := [some (.ref p0), some (.int p1), some (.int p2), some (.int (x3 - (g_min x3 (s (p0 + 2) x5.toNatClampNeg)))), some (.int x4), some (.int x5), some (.int (g_min x3 (s (p0 + 2) x5.toNatClampNeg)))]) rfl ?_
    refine g_getr (p0 + 1) (n_q md_21 rfl) ph0 rfl ?_
    refine g_go 1 md_21 (i1 := 25) rfl ?_
    refine g_iald (n_q md_21 rfl) (tf_2_1 ph0) h2 ?_
    refine g_go 1 md_21 (i1 := 27) rfl ?_
    by_cases h3 : (s (p0 + 1) x5.toNatClampNeg) = p1
    · rw [if_pos h3] at H
      refine n_cmpF (n_q md_21 rfl) (fun e1 => of_decide_eq_true e1 h3) ?_
      refine g_go 6 md_21 (i1 := 9) (ls1 := [some (.ref p0), some (.int p1), some (.int p2), some (.int (x3 - (g_min x3 (s (p0 + 2) x5.toNatClampNeg)))), some (.int (x4 + (g_min x3 (s (p0 + 2) x5.toNatClampNeg)))), some (.int (x5 + (-1))), some (.int (g_min x3 (s (p0 + 2) x5.toNatClampNeg)))]) rfl ?_
      cases H
      exact K0 (x3 - (g_min x3 (s (p0 + 2) x5.toNatClampNeg)), (x4 + (g_min x3 (s (p0 + 2) x5.toNatClampNeg)), x5 + (-1))) rfl _
    · rw [if_neg h3] at H
      refine n_cmpT (n_q md_21 rfl) (decide_eq_true h3) ?_
      refine g_go 2 md_21 (i1 := 9) (ls1 := [some (.ref p0), some (.int p1), some (.int p2), some (.int (x3 - (g_min x3 (s (p0 + 2) x5.toNatClampNeg)))), some (.int x4), some (.int (x5 + (-1))), some (.int (g_min x3 (s (p0 + 2) x5.toNatClampNeg)))]) rfl ?_
      cases H
      exact K0 (x3 - (g_min x3 (s (p0 + 2) x5.toNatClampNeg)), (x4, x5 + (-1))) rfl _
noncomputable def f21_9L (s : g_S) (p0 : Nat) (p1 : Int32) (p2 : Int32) (x3 : Int32) (x4 : Int32) (x5 : Int32) : Option (Int32) := g_run (fun S : Int32 × Int32 × Int32 => f21_9 s p0 p1 p2 S.1 S.2.1 S.2.2) (x3, (x4, x5))
theorem f21_9L_eq (s : g_S) (p0 : Nat) (p1 : Int32) (p2 : Int32) (x3 : Int32) (x4 : Int32) (x5 : Int32) : f21_9L s p0 p1 p2 x3 x4 x5 = g_st (f21_9 s p0 p1 p2 x3 x4 x5) (fun S => f21_9L s p0 p1 p2 S.1 S.2.1 S.2.2) := by
  unfold f21_9L
  exact g_run_eq _ _
theorem P21_9L {d ex : Nat} {s : g_S} {p0 : Nat} {p1 : Int32} {p2 : Int32} {x3 : Int32} {x4 : Int32} {x5 : Int32} {u6 : Option Value} (ph0 : g_lay p0 = o_2 p0)  {z : (Int32)} (H : f21_9L s p0 p1 p2 x3 x4 x5 = some z) (hd : 12 ≤ d)  : n_R X (d + 1) 21 9 [some (.ref p0), some (.int p1), some (.int p2), some (.int x3), some (.int x4), some (.int x5), u6] [] (g_M s ex) (g_rPI s z ex) := by
  unfold f21_9L at H
  refine g_rs (Q := fun S => ∀ u6 : Option Value, n_R X (d + 1) 21 9 [some (.ref p0), some (.int p1), some (.int p2), some (.int S.1), some (.int S.2.1), some (.int S.2.2), u6] [] (g_M s ex) (g_rPI s z ex)) H ?_ u6
  intro S w hb K0 KK u6
  refine P21_9 ph0 hb hd ?_ ?_
  · exact fun S1 e1 => K0 S1 e1
  · exact fun q e1 => by rw [KK q e1]
noncomputable def f21 (s : g_S) (p0 : Nat) (p1 : Int32) (p2 : Int32) : Option (Int32) := (f21_9L s p0 p1 p2 p2 0 ((s p0 0) - 1))
theorem C21 {d ex : Nat} {s : g_S} {p0 : Nat} {p1 : Int32} {p2 : Int32} (ph0 : g_lay p0 = o_2 p0) {z : Int32} (hd : 12 < d) (H : f21 s p0 p1 p2 = some z) : n_C X d 21 [.ref p0, .int p1, .int p2] (g_M s ex) (g_rPI s z ex) := by
  obtain ⟨d, rfl⟩ : ∃ d1, d = d1 + 1 := ⟨d - 1, by omega⟩
  replace hd := Nat.le_of_lt_succ hd
  refine ⟨Nat.le_of_ble_eq_true rfl, ?_⟩
  rw [md_21]
  show n_R X (d + 1) 21 0 [some (.ref p0), some (.int p1), some (.int p2), none, none, none, none] [] (g_M s ex) _
  unfold f21 at H
  refine g_go 5 md_21 (i1 := 5) (ls1 := [some (.ref p0), some (.int p1), some (.int p2), some (.int p2), some (.int 0), none, none]) rfl ?_
  refine g_getf (n_q md_21 rfl) ph0 rfl ?_
  refine g_go 3 md_21 (i1 := 9) (ls1 := [some (.ref p0), some (.int p1), some (.int p2), some (.int p2), some (.int 0), some (.int ((s p0 0) - 1)), none]) rfl ?_
  exact P21_9L ph0 H hd

theorem md_20 : m_md 20 = m_X2_allOf := rfl
noncomputable def f20 (s : g_S) (p0 : Nat) (p1 : Int32) : Option (Int32) := ((f19 s p0).bind fun v1 => (f21 s p0 p1 v1).bind fun v2 => some v2)
theorem C20 {d ex : Nat} {s : g_S} {p0 : Nat} {p1 : Int32} (ph0 : g_lay p0 = o_2 p0) {z : Int32} (hd : 13 < d) (H : f20 s p0 p1 = some z) : n_C X d 20 [.ref p0, .int p1] (g_M s ex) (g_rPI s z ex) := by
  obtain ⟨d, rfl⟩ : ∃ d1, d = d1 + 1 := ⟨d - 1, by omega⟩
  replace hd := Nat.le_of_lt_succ hd
  refine ⟨Nat.le_of_ble_eq_true rfl, ?_⟩
  rw [md_20]
  show n_R X (d + 1) 20 0 [some (.ref p0), some (.int p1)] [] (g_M s ex) _
  unfold f20 at H
  refine g_go 3 md_20 (i1 := 3) rfl ?_
  obtain ⟨v1, hv1, H⟩ := g_bind H
  refine n_callv (n_q md_20 rfl) (As := [.ref p0]) (rest := [.int p1, .ref p0]) rfl rfl (Nat.le_of_ble_eq_true rfl) rfl (g_recv (b := 0) rfl ph0 rfl) (C19 ph0 (by omega) hv1) ?_
  obtain ⟨v2, hv2, H⟩ := g_bind H
  refine n_callv (n_q md_20 rfl) (As := [.ref p0, .int p1, .int v1]) (rest := []) rfl rfl (Nat.le_of_ble_eq_true rfl) rfl (g_recv (b := 0) rfl ph0 rfl) (C21 ph0 (by omega) hv2) ?_
  cases H
  exact n_iret (n_q md_20 rfl) (Or.inl rfl)

theorem md_23 : m_md 23 = m_X3_clear := rfl
noncomputable def f23 (s : g_S) (p0 : Nat) : Option (g_S) := (g_let (g_w s p0 0 ((-1))) fun s1 => g_let (g_w s1 p0 1 ((-1))) fun s2 => g_let (g_w s2 p0 2 ((-1))) fun s3 => g_let (g_w s3 p0 3 ((-1))) fun s4 => g_let (g_w s4 p0 4 ((-1))) fun s5 => g_let (g_w s5 p0 5 9999) fun s6 => g_let (g_w s6 p0 6 0) fun s7 => g_let (g_w s7 p0 7 0) fun s8 => some s8)
theorem C23 {d ex : Nat} {s : g_S} {p0 : Nat} (ph0 : g_lay p0 = o_3 p0) {z : g_S} (hd : 12 < d) (H : f23 s p0 = some z) : n_C X d 23 [.ref p0] (g_M s ex) (g_rSV z ex) := by
  obtain ⟨d, rfl⟩ : ∃ d1, d = d1 + 1 := ⟨d - 1, by omega⟩
  replace hd := Nat.le_of_lt_succ hd
  refine ⟨Nat.le_of_ble_eq_true rfl, ?_⟩
  rw [md_23]
  show n_R X (d + 1) 23 0 [some (.ref p0)] [] (g_M s ex) _
  unfold f23 at H
  refine g_go 2 md_23 (i1 := 2) rfl ?_
  obtain ⟨s1, es1, H⟩ := g_letp H
  refine g_putf (n_q md_23 rfl) ph0 rfl rfl es1 ?_
  refine g_go 2 md_23 (i1 := 5) rfl ?_
  obtain ⟨s2, es2, H⟩ := g_letp H
  refine g_putf (n_q md_23 rfl) ph0 rfl rfl es2 ?_
  refine g_go 2 md_23 (i1 := 8) rfl ?_
  obtain ⟨s3, es3, H⟩ := g_letp H
  refine g_putf (n_q md_23 rfl) ph0 rfl rfl es3 ?_
  refine g_go 2 md_23 (i1 := 11) rfl ?_
  obtain ⟨s4, es4, H⟩ := g_letp H
  refine g_putf (n_q md_23 rfl) ph0 rfl rfl es4 ?_
  refine g_go 2 md_23 (i1 := 14) rfl ?_
  obtain ⟨s5, es5, H⟩ := g_letp H
  refine g_putf (n_q md_23 rfl) ph0 rfl rfl es5 ?_
  refine g_go 2 md_23 (i1 := 17) rfl ?_
  obtain ⟨s6, es6, H⟩ := g_letp H
  refine g_putf (n_q md_23 rfl) ph0 rfl rfl es6 ?_
  refine g_go 2 md_23 (i1 := 20) rfl ?_
  obtain ⟨s7, es7, H⟩ := g_letp H
  refine g_putf (n_q md_23 rfl) ph0 rfl rfl es7 ?_
  refine g_go 2 md_23 (i1 := 23) rfl ?_
  obtain ⟨s8, es8, H⟩ := g_letp H
  refine g_putf (n_q md_23 rfl) ph0 rfl rfl es8 ?_
  cases H
  exact n_end (n_q md_23 rfl) (fun _ => rfl)

theorem md_25 : m_md 25 = m_X3_entry := rfl
noncomputable def f25 (s : g_S) (p0 : Nat) (p1 : Int32) : Option (Int32) := ((if p1 = 0 then (some (s p0 0)) else (if p1 = 1 then (some (s p0 1)) else (if p1 = 2 then (some (s p0 2)) else (if p1 = 3 then (some (s p0 3)) else (if p1 = 4 then (some (s p0 4)) else (some (s p0 5))))))))
theorem C25 {d ex : Nat} {s : g_S} {p0 : Nat} {p1 : Int32} (ph0 : g_lay p0 = o_3 p0) {z : Int32} (hd : 12 < d) (H : f25 s p0 p1 = some z) : n_C X d 25 [.ref p0, .int p1] (g_M s ex) (g_rPI s z ex) := by
  obtain ⟨d, rfl⟩ : ∃ d1, d = d1 + 1 := ⟨d - 1, by omega⟩
  replace hd := Nat.le_of_lt_succ hd
  refine ⟨Nat.le_of_ble_eq_true rfl, ?_⟩
  rw [md_25]
  show n_R X (d + 1) 25 0 [some (.ref p0), some (.int p1)] [] (g_M s ex) _
  unfold f25 at H
  refine g_go 1 md_25 (i1 := 1) rfl ?_
  refine n_sw (n_q md_25 rfl) ?_
  unfold m_sw
  by_cases h1 : p1 = 0
  · rw [if_pos h1] at H ⊢
    refine g_go 1 md_25 (i1 := 3) rfl ?_
    refine g_getf (n_q md_25 rfl) ph0 rfl ?_
    cases H
    exact n_iret (n_q md_25 rfl) (Or.inl rfl)
  · rw [if_neg h1] at H ⊢
    unfold m_sw
    by_cases h2 : p1 = 1
    · rw [if_pos h2] at H ⊢
      refine g_go 1 md_25 (i1 := 6) rfl ?_
      refine g_getf (n_q md_25 rfl) ph0 rfl ?_
      cases H
      exact n_iret (n_q md_25 rfl) (Or.inl rfl)
    · rw [if_neg h2] at H ⊢
      unfold m_sw
      by_cases h3 : p1 = 2
      · rw [if_pos h3] at H ⊢
        refine g_go 1 md_25 (i1 := 9) rfl ?_
        refine g_getf (n_q md_25 rfl) ph0 rfl ?_
        cases H
        exact n_iret (n_q md_25 rfl) (Or.inl rfl)
      · rw [if_neg h3] at H ⊢
        unfold m_sw
        by_cases h4 : p1 = 3
        · rw [if_pos h4] at H ⊢
          refine g_go 1 md_25 (i1 := 12) rfl ?_
          refine g_getf (n_q md_25 rfl) ph0 rfl ?_
          cases H
          exact n_iret (n_q md_25 rfl) (Or.inl rfl)
        · rw [if_neg h4] at H ⊢
          unfold m_sw
          by_cases h5 : p1 = 4
          · rw [if_pos h5] at H ⊢
            refine g_go 1 md_25 (i1 := 15) rfl ?_
            refine g_getf (n_q md_25 rfl) ph0 rfl ?_
            cases H
            exact n_iret (n_q md_25 rfl) (Or.inl rfl)
          · rw [if_neg h5] at H ⊢
            unfold m_sw
            refine g_go 1 md_25 (i1 := 18) rfl ?_
            refine g_getf (n_q md_25 rfl) ph0 rfl ?_
            cases H
            exact n_iret (n_q md_25 rfl) (Or.inl rfl)

theorem md_29 : m_md 29 = m_X4_clear := rfl
noncomputable def f29 (s : g_S) (p0 : Nat) : Option (g_S) := (g_let (g_w s p0 1 0) fun s1 => g_let (g_w s1 p0 8 0) fun s2 => g_let (g_w s2 p0 0 ((-1))) fun s3 => some s3)
theorem C29 {d ex : Nat} {s : g_S} {p0 : Nat} (ph0 : g_lay p0 = o_4 p0) {z : g_S} (hd : 12 < d) (H : f29 s p0 = some z) : n_C X d 29 [.ref p0] (g_M s ex) (g_rSV z ex) := by
  obtain ⟨d, rfl⟩ : ∃ d1, d = d1 + 1 := ⟨d - 1, by omega⟩
  replace hd := Nat.le_of_lt_succ hd
  refine ⟨Nat.le_of_ble_eq_true rfl, ?_⟩
  rw [md_29]
  show n_R X (d + 1) 29 0 [some (.ref p0)] [] (g_M s ex) _
  unfold f29 at H
  refine g_go 2 md_29 (i1 := 2) rfl ?_
  obtain ⟨s1, es1, H⟩ := g_letp H
  refine g_putf (n_q md_29 rfl) ph0 rfl rfl es1 ?_
  refine g_go 2 md_29 (i1 := 5) rfl ?_
  obtain ⟨s2, es2, H⟩ := g_letp H
  refine g_putf (n_q md_29 rfl) ph0 rfl rfl es2 ?_
  refine g_go 2 md_29 (i1 := 8) rfl ?_
  obtain ⟨s3, es3, H⟩ := g_letp H
  refine g_putf (n_q md_29 rfl) ph0 rfl rfl es3 ?_
  cases H
  exact n_end (n_q md_29 rfl) (fun _ => rfl)

theorem md_30 : m_md 30 = m_X4_isFull := rfl
noncomputable def f30 (s : g_S) (p0 : Nat) : Option (Int32) := (if (s p0 1) < 24 then (some 0) else (some 1))
theorem C30 {d ex : Nat} {s : g_S} {p0 : Nat} (ph0 : g_lay p0 = o_4 p0) {z : Int32} (hd : 12 < d) (H : f30 s p0 = some z) : n_C X d 30 [.ref p0] (g_M s ex) (g_rPI s z ex) := by
  obtain ⟨d, rfl⟩ : ∃ d1, d = d1 + 1 := ⟨d - 1, by omega⟩
  replace hd := Nat.le_of_lt_succ hd
  refine ⟨Nat.le_of_ble_eq_true rfl, ?_⟩
  rw [md_30]
  show n_R X (d + 1) 30 0 [some (.ref p0)] [] (g_M s ex) _
  unfold f30 at H
  refine g_go 1 md_30 (i1 := 1) rfl ?_
  refine g_getf (n_q md_30 rfl) ph0 rfl ?_
  refine g_go 1 md_30 (i1 := 3) rfl ?_
  by_cases h1 : (s p0 1) < 24
  · rw [if_pos h1] at H
    refine n_cmpT (n_q md_30 rfl) (decide_eq_true h1) ?_
    refine g_go 1 md_30 (i1 := 7) rfl ?_
    cases H
    exact n_iret (n_q md_30 rfl) (Or.inr rfl)
  · rw [if_neg h1] at H
    refine n_cmpF (n_q md_30 rfl) (fun e1 => h1 (of_decide_eq_true e1)) ?_
    refine g_go 2 md_30 (i1 := 7) rfl ?_
    cases H
    exact n_iret (n_q md_30 rfl) (Or.inr rfl)

theorem md_31 : m_md 31 = m_X4_beginClause := rfl
noncomputable def f31 (s : g_S) (p0 : Nat) (p1 : Int32) (p2 : Int32) : Option (g_S) := ((f30 s p0).bind fun v1 => if v1 = 0 then (if m_in (s p0 1) 24 = true then g_let (g_w s (p0 + 1) (s p0 1).toNatClampNeg p1) fun s4 => if m_in (s4 p0 1) 24 = true then g_let (g_w s4 (p0 + 2) (s4 p0 1).toNatClampNeg p2) fun s6 => if m_in (s6 p0 1) 24 = true then g_let (g_w s6 (p0 + 3) (s6 p0 1).toNatClampNeg 0) fun s8 => if m_in (s8 p0 1) 24 = true then g_let (g_w s8 (p0 + 4) (s8 p0 1).toNatClampNeg (s8 p0 8)) fun s10 => if m_in (s10 p0 1) 24 = true then g_let (g_w s10 (p0 + 5) (s10 p0 1).toNatClampNeg (s10 p0 8)) fun s12 => g_let (g_w s12 p0 1 ((s12 p0 1) + 1)) fun s13 => some s13 else none else none else none else none else none) else (some s))
theorem C31 {d ex : Nat} {s : g_S} {p0 : Nat} {p1 : Int32} {p2 : Int32} (ph0 : g_lay p0 = o_4 p0) {z : g_S} (hd : 13 < d) (H : f31 s p0 p1 p2 = some z) : n_C X d 31 [.ref p0, .int p1, .int p2] (g_M s ex) (g_rSV z ex) := by
  obtain ⟨d, rfl⟩ : ∃ d1, d = d1 + 1 := ⟨d - 1, by omega⟩
  replace hd := Nat.le_of_lt_succ hd
  refine ⟨Nat.le_of_ble_eq_true rfl, ?_⟩
  rw [md_31]
  show n_R X (d + 1) 31 0 [some (.ref p0), some (.int p1), some (.int p2)] [] (g_M s ex) _
  unfold f31 at H
  refine g_go 1 md_31 (i1 := 1) rfl ?_
  obtain ⟨v1, hv1, H⟩ := g_bind H
  refine n_callv (n_q md_31 rfl) (As := [.ref p0]) (rest := []) rfl rfl (Nat.le_of_ble_eq_true rfl) rfl (g_recv (b := 0) rfl ph0 rfl) (C30 ph0 (by omega) hv1) ?_
  by_cases h2 : v1 = 0
  · rw [if_pos h2] at H
    refine n_ifT (n_q md_31 rfl) (decide_eq_true h2) ?_
    refine g_go 1 md_31 (i1 := 5) rfl ?_
    refine g_getr (p0 + 1) (n_q md_31 rfl) ph0 rfl ?_
    refine g_go 1 md_31 (i1 := 7) rfl ?_
    refine g_getf (n_q md_31 rfl) ph0 rfl ?_
    refine g_go 1 md_31 (i1 := 9) rfl ?_
    obtain ⟨h3, H⟩ := g_gd H
    obtain ⟨s4, es4, H⟩ := g_letp H
    refine g_iast (n_q md_31 rfl) (tf_4_2 ph0) h3 es4 ?_
    refine g_go 1 md_31 (i1 := 11) rfl ?_
    refine g_getr (p0 + 2) (n_q md_31 rfl) ph0 rfl ?_
    refine g_go 1 md_31 (i1 := 13) rfl ?_
    refine g_getf (n_q md_31 rfl) ph0 rfl ?_
    refine g_go 1 md_31 (i1 := 15) rfl ?_
    obtain ⟨h5, H⟩ := g_gd H
    obtain ⟨s6, es6, H⟩ := g_letp H
    refine g_iast (n_q md_31 rfl) (tf_4_3 ph0) h5 es6 ?_
    refine g_go 1 md_31 (i1 := 17) rfl ?_
    refine g_getr (p0 + 3) (n_q md_31 rfl) ph0 rfl ?_
    refine g_go 1 md_31 (i1 := 19) rfl ?_
    refine g_getf (n_q md_31 rfl) ph0 rfl ?_
    refine g_go 1 md_31 (i1 := 21) rfl ?_
    obtain ⟨h7, H⟩ := g_gd H
    obtain ⟨s8, es8, H⟩ := g_letp H
    refine g_iast (n_q md_31 rfl) (tf_4_4 ph0) h7 es8 ?_
    refine g_go 1 md_31 (i1 := 23) rfl ?_
    refine g_getr (p0 + 4) (n_q md_31 rfl) ph0 rfl ?_
    refine g_go 1 md_31 (i1 := 25) rfl ?_
    refine g_getf (n_q md_31 rfl) ph0 rfl ?_
    refine g_go 1 md_31 (i1 := 27) rfl ?_
    refine g_getf (n_q md_31 rfl) ph0 rfl ?_
    obtain ⟨h9, H⟩ := g_gd H
    obtain ⟨s10, es10, H⟩ := g_letp H
    refine g_iast (n_q md_31 rfl) (tf_4_5 ph0) h9 es10 ?_
    refine g_go 1 md_31 (i1 := 30) rfl ?_
    refine g_getr (p0 + 5) (n_q md_31 rfl) ph0 rfl ?_
    refine g_go 1 md_31 (i1 := 32) rfl ?_
    refine g_getf (n_q md_31 rfl) ph0 rfl ?_
    refine g_go 1 md_31 (i1 := 34) rfl ?_
    refine g_getf (n_q md_31 rfl) ph0 rfl ?_
    obtain ⟨h11, H⟩ := g_gd H
    obtain ⟨s12, es12, H⟩ := g_letp H
    refine g_iast (n_q md_31 rfl) (tf_4_6 ph0) h11 es12 ?_
    refine g_go 2 md_31 (i1 := 38) rfl ?_
    refine g_getf (n_q md_31 rfl) ph0 rfl ?_
    refine g_go 2 md_31 (i1 := 41) rfl ?_
    obtain ⟨s13, es13, H⟩ := g_letp H
    refine g_putf (n_q md_31 rfl) ph0 rfl rfl es13 ?_
    cases H
    exact n_end (n_q md_31 rfl) (fun _ => rfl)
  · rw [if_neg h2] at H
    refine n_ifF (n_q md_31 rfl) (fun e1 => h2 (of_decide_eq_true e1)) ?_
    cases H
    exact n_end (n_q md_31 rfl) (fun _ => rfl)

theorem md_32 : m_md 32 = m_X4_include := rfl
noncomputable def f32 (s : g_S) (p0 : Nat) (p1 : Int32) : Option (g_S) := (if 0 < (s p0 1) then (if m_in ((s p0 1) - 1) 24 = true then g_let (g_w s (p0 + 3) ((s p0 1) - 1).toNatClampNeg ((s (p0 + 3) ((s p0 1) - 1).toNatClampNeg) ||| p1)) fun s3 => some s3 else none) else (some s))
theorem C32 {d ex : Nat} {s : g_S} {p0 : Nat} {p1 : Int32} (ph0 : g_lay p0 = o_4 p0) {z : g_S} (hd : 12 < d) (H : f32 s p0 p1 = some z) : n_C X d 32 [.ref p0, .int p1] (g_M s ex) (g_rSV z ex) := by
  obtain ⟨d, rfl⟩ : ∃ d1, d = d1 + 1 := ⟨d - 1, by omega⟩
  replace hd := Nat.le_of_lt_succ hd
  refine ⟨Nat.le_of_ble_eq_true rfl, ?_⟩
  rw [md_32]
  show n_R X (d + 1) 32 0 [some (.ref p0), some (.int p1)] [] (g_M s ex) _
  unfold f32 at H
  refine g_go 1 md_32 (i1 := 1) rfl ?_
  refine g_getf (n_q md_32 rfl) ph0 rfl ?_
  by_cases h1 : 0 < (s p0 1)
  · rw [if_pos h1] at H
    refine n_ifF (n_q md_32 rfl) (fun e1 => absurd (of_decide_eq_true e1) (Int32.not_le.mpr h1)) ?_
    refine g_go 1 md_32 (i1 := 4) rfl ?_
    refine g_getr (p0 + 3) (n_q md_32 rfl) ph0 rfl ?_
    refine g_go 1 md_32 (i1 := 6) rfl ?_
    refine g_getf (n_q md_32 rfl) ph0 rfl ?_
    refine g_go 3 md_32 (i1 := 10) rfl ?_
    obtain ⟨h2, H⟩ := g_gd H
    refine g_iald (n_q md_32 rfl) (tf_4_4 ph0) h2 ?_
    refine g_go 2 md_32 (i1 := 13) rfl ?_
    obtain ⟨s3, es3, H⟩ := g_letp H
    refine g_iast (n_q md_32 rfl) (tf_4_4 ph0) h2 es3 ?_
    cases H
    exact n_end (n_q md_32 rfl) (fun _ => rfl)
  · rw [if_neg h1] at H
    refine n_ifT (n_q md_32 rfl) (decide_eq_true (Int32.not_lt.mp h1)) ?_
    cases H
    exact n_end (n_q md_32 rfl) (fun _ => rfl)

theorem md_33 : m_md 33 = m_X4_addStep := rfl
noncomputable def f33 (s : g_S) (p0 : Nat) (p1 : Int32) : Option (g_S) := (if 0 < (s p0 1) then (if (s p0 8) < 500 then (if m_in (s p0 8) 500 = true then g_let (g_w s (p0 + 6) (s p0 8).toNatClampNeg p1) fun s4 => g_let (g_w s4 p0 8 ((s4 p0 8) + 1)) fun s5 => if m_in ((s5 p0 1) - 1) 24 = true then g_let (g_w s5 (p0 + 5) ((s5 p0 1) - 1).toNatClampNeg (s5 p0 8)) fun s7 => some s7 else none else none) else (some s)) else (some s))
theorem C33 {d ex : Nat} {s : g_S} {p0 : Nat} {p1 : Int32} (ph0 : g_lay p0 = o_4 p0) {z : g_S} (hd : 12 < d) (H : f33 s p0 p1 = some z) : n_C X d 33 [.ref p0, .int p1] (g_M s ex) (g_rSV z ex) := by
  obtain ⟨d, rfl⟩ : ∃ d1, d = d1 + 1 := ⟨d - 1, by omega⟩
  replace hd := Nat.le_of_lt_succ hd
  refine ⟨Nat.le_of_ble_eq_true rfl, ?_⟩
  rw [md_33]
  show n_R X (d + 1) 33 0 [some (.ref p0), some (.int p1)] [] (g_M s ex) _
  unfold f33 at H
  refine g_go 1 md_33 (i1 := 1) rfl ?_
  refine g_getf (n_q md_33 rfl) ph0 rfl ?_
  by_cases h1 : 0 < (s p0 1)
  · rw [if_pos h1] at H
    refine n_ifF (n_q md_33 rfl) (fun e1 => absurd (of_decide_eq_true e1) (Int32.not_le.mpr h1)) ?_
    refine g_go 1 md_33 (i1 := 4) rfl ?_
    refine g_getf (n_q md_33 rfl) ph0 rfl ?_
    refine g_go 1 md_33 (i1 := 6) rfl ?_
    by_cases h2 : (s p0 8) < 500
    · rw [if_pos h2] at H
      refine n_cmpF (n_q md_33 rfl) (fun e1 => absurd (of_decide_eq_true e1) (Int32.not_le.mpr h2)) ?_
      refine g_go 1 md_33 (i1 := 8) rfl ?_
      refine g_getr (p0 + 6) (n_q md_33 rfl) ph0 rfl ?_
      refine g_go 1 md_33 (i1 := 10) rfl ?_
      refine g_getf (n_q md_33 rfl) ph0 rfl ?_
      refine g_go 1 md_33 (i1 := 12) rfl ?_
      obtain ⟨h3, H⟩ := g_gd H
      obtain ⟨s4, es4, H⟩ := g_letp H
      refine g_iast (n_q md_33 rfl) (tf_4_7 ph0) h3 es4 ?_
      refine g_go 2 md_33 (i1 := 15) rfl ?_
      refine g_getf (n_q md_33 rfl) ph0 rfl ?_
      refine g_go 2 md_33 (i1 := 18) rfl ?_
      obtain ⟨s5, es5, H⟩ := g_letp H
      refine g_putf (n_q md_33 rfl) ph0 rfl rfl es5 ?_
      refine g_go 1 md_33 (i1 := 20) rfl ?_
      refine g_getr (p0 + 5) (n_q md_33 rfl) ph0 rfl ?_
      refine g_go 1 md_33 (i1 := 22) rfl ?_
      refine g_getf (n_q md_33 rfl) ph0 rfl ?_
      refine g_go 3 md_33 (i1 := 26) rfl ?_
      refine g_getf (n_q md_33 rfl) ph0 rfl ?_
      obtain ⟨h6, H⟩ := g_gd H
      obtain ⟨s7, es7, H⟩ := g_letp H
      refine g_iast (n_q md_33 rfl) (tf_4_6 ph0) h6 es7 ?_
      cases H
      exact n_end (n_q md_33 rfl) (fun _ => rfl)
    · rw [if_neg h2] at H
      refine n_cmpT (n_q md_33 rfl) (decide_eq_true (Int32.not_lt.mp h2)) ?_
      cases H
      exact n_end (n_q md_33 rfl) (fun _ => rfl)
  · rw [if_neg h1] at H
    refine n_ifT (n_q md_33 rfl) (decide_eq_true (Int32.not_lt.mp h1)) ?_
    cases H
    exact n_end (n_q md_33 rfl) (fun _ => rfl)

theorem md_36 : m_md 36 = m_X4_claimFor := rfl
noncomputable def f36_17 (s : g_S) (p0 : Nat) (p1 : Int32) (p2 : Int32) (p3 : Nat) (y0 : Int32) : Option (Int32 × g_S) := (if y0 = 0 then (some ((0, s))) else (g_bd (f35 s p0 p1 p3) fun v2 s3 => some ((v2, s3))))
theorem P36_17 {d ex : Nat} {s : g_S} {p0 : Nat} {p1 : Int32} {p2 : Int32} {p3 : Nat} {y0 : Int32} {u4 : Option Value} (ph0 : g_lay p0 = o_4 p0) (ph3 : g_lay p3 = (1, (8, [])))  {z : (Int32 × g_S)} (H : f36_17 s p0 p1 p2 p3 y0 = some z) (hd : 15 ≤ d)  : n_R X (d + 1) 36 17 [some (.ref p0), some (.int p1), some (.int p2), some (.ref p3), u4] [.int y0] (g_M s ex) (g_rSI z ex) := by
  unfold f36_17 at H
  refine g_go 2 md_36 (i1 := 19) (ls1 := [some (.ref p0), some (.int p1), some (.int p2), some (.ref p3), some (.int y0)]) rfl ?_
  by_cases h1 : y0 = 0
  · rw [if_pos h1] at H
    refine n_ifT (n_q md_36 rfl) (decide_eq_true h1) ?_
    refine g_go 1 md_36 (i1 := 26) rfl ?_
    cases H
    exact n_iret (n_q md_36 rfl) (Or.inl rfl)
  · rw [if_neg h1] at H
    refine n_ifF (n_q md_36 rfl) (fun e1 => h1 (of_decide_eq_true e1)) ?_
    refine g_go 3 md_36 (i1 := 23) rfl ?_
    obtain ⟨v2, s3, hv2, H⟩ := g_bdp H
    refine n_callv (n_q md_36 rfl) (As := [.ref p0, .int p1, .ref p3]) (rest := []) rfl rfl (Nat.le_of_ble_eq_true rfl) rfl (g_recv (b := 0) rfl ph0 rfl) (C35 ph0 ph3 (by omega) hv2) ?_
    refine g_go 1 md_36 (i1 := 26) rfl ?_
    cases H
    exact n_iret (n_q md_36 rfl) (Or.inl rfl)
noncomputable def f36_14 (s : g_S) (p0 : Nat) (p1 : Int32) (p2 : Int32) (p3 : Nat) : Option (Int32 × g_S) := (f36_17 s p0 p1 p2 p3 1)
theorem P36_14 {d ex : Nat} {s : g_S} {p0 : Nat} {p1 : Int32} {p2 : Int32} {p3 : Nat} {u4 : Option Value} (ph0 : g_lay p0 = o_4 p0) (ph3 : g_lay p3 = (1, (8, [])))  {z : (Int32 × g_S)} (H : f36_14 s p0 p1 p2 p3 = some z) (hd : 15 ≤ d)  : n_R X (d + 1) 36 14 [some (.ref p0), some (.int p1), some (.int p2), some (.ref p3), u4] [] (g_M s ex) (g_rSI z ex) := by
  unfold f36_14 at H
  refine g_go 2 md_36 (i1 := 17) rfl ?_
  exact P36_17 ph0 ph3 H hd
noncomputable def f36 (s : g_S) (p0 : Nat) (p1 : Int32) (p2 : Int32) (p3 : Nat) : Option (Int32 × g_S) := (g_bd (f34 s p0 0 p1 p2 p3) fun v1 s2 => if v1 = 0 then (g_bd (f34 s2 p0 1 p1 p2 p3) fun v4 s5 => if v4 = 0 then (f36_17 s5 p0 p1 p2 p3 0) else (f36_14 s5 p0 p1 p2 p3)) else (f36_14 s2 p0 p1 p2 p3))
theorem C36 {d ex : Nat} {s : g_S} {p0 : Nat} {p1 : Int32} {p2 : Int32} {p3 : Nat} (ph0 : g_lay p0 = o_4 p0) (ph3 : g_lay p3 = (1, (8, []))) {z : Int32 × g_S} (hd : 15 < d) (H : f36 s p0 p1 p2 p3 = some z) : n_C X d 36 [.ref p0, .int p1, .int p2, .ref p3] (g_M s ex) (g_rSI z ex) := by
  obtain ⟨d, rfl⟩ : ∃ d1, d = d1 + 1 := ⟨d - 1, by omega⟩
  replace hd := Nat.le_of_lt_succ hd
  refine ⟨Nat.le_of_ble_eq_true rfl, ?_⟩
  rw [md_36]
  show n_R X (d + 1) 36 0 [some (.ref p0), some (.int p1), some (.int p2), some (.ref p3), none] [] (g_M s ex) _
  unfold f36 at H
  refine g_go 5 md_36 (i1 := 5) rfl ?_
  obtain ⟨v1, s2, hv1, H⟩ := g_bdp H
  refine n_callv (n_q md_36 rfl) (As := [.ref p0, .int 0, .int p1, .int p2, .ref p3]) (rest := []) rfl rfl (Nat.le_of_ble_eq_true rfl) rfl (g_recv (b := 0) rfl ph0 rfl) (C34 ph0 ph3 (by omega) hv1) ?_
  by_cases h3 : v1 = 0
  · rw [if_pos h3] at H
    refine n_ifF (n_q md_36 rfl) (fun e1 => of_decide_eq_true e1 h3) ?_
    refine g_go 5 md_36 (i1 := 12) rfl ?_
    obtain ⟨v4, s5, hv4, H⟩ := g_bdp H
    refine n_callv (n_q md_36 rfl) (As := [.ref p0, .int 1, .int p1, .int p2, .ref p3]) (rest := []) rfl rfl (Nat.le_of_ble_eq_true rfl) rfl (g_recv (b := 0) rfl ph0 rfl) (C34 ph0 ph3 (by omega) hv4) ?_
    by_cases h6 : v4 = 0
    · rw [if_pos h6] at H
      refine n_ifT (n_q md_36 rfl) (decide_eq_true h6) ?_
      refine g_go 1 md_36 (i1 := 17) rfl ?_
      exact P36_17 ph0 ph3 H hd
    · rw [if_neg h6] at H
      refine n_ifF (n_q md_36 rfl) (fun e1 => h6 (of_decide_eq_true e1)) ?_
      exact P36_14 ph0 ph3 H hd
  · rw [if_neg h3] at H
    refine n_ifT (n_q md_36 rfl) (decide_eq_true h3) ?_
    exact P36_14 ph0 ph3 H hd

theorem md_38 : m_md 38 = m_X4_doubles := rfl
noncomputable def f38_2 (s : g_S) (p0 : Nat) (p1 : Int32) (x2 : Int32) : Option ((Int32) ⊕ (Int32)) := (if x2 < (s p0 1) then ((f39 s p0 x2 4 p1).bind fun v2 => if v2 = 0 then (some (.inl (x2 + 1))) else (some (.inr (1)))) else (some (.inr (0))))
theorem P38_2 {d ex : Nat} {rr : m_R} {s : g_S} {p0 : Nat} {p1 : Int32} {x2 : Int32} (ph0 : g_lay p0 = o_4 p0)  {z : ((Int32) ⊕ (Int32))} (H : f38_2 s p0 p1 x2 = some z) (hd : 13 ≤ d) (K0 : ∀ S : Int32, z = .inl S → n_R X (d + 1) 38 2 [some (.ref p0), some (.int p1), some (.int S)] [] (g_M s ex) rr) (Kr : ∀ q, z = .inr (q) → g_rPI s q ex = rr) : n_R X (d + 1) 38 2 [some (.ref p0), some (.int p1), some (.int x2)] [] (g_M s ex) rr := by
  unfold f38_2 at H
  refine g_go 2 md_38 (i1 := 4) rfl ?_
  refine g_getf (n_q md_38 rfl) ph0 rfl ?_
  by_cases h1 : x2 < (s p0 1)
  · rw [if_pos h1] at H
    refine n_cmpF (n_q md_38 rfl) (fun e1 => absurd (of_decide_eq_true e1) (Int32.not_le.mpr h1)) ?_
    refine g_go 4 md_38 (i1 := 10) rfl ?_
    obtain ⟨v2, hv2, H⟩ := g_bind H
    refine n_callv (n_q md_38 rfl) (As := [.ref p0, .int x2, .int 4, .int p1]) (rest := []) rfl rfl (Nat.le_of_ble_eq_true rfl) rfl (g_recv (b := 0) rfl ph0 rfl) (C39 ph0 (by omega) hv2) ?_
    by_cases h3 : v2 = 0
    · rw [if_pos h3] at H
      refine n_ifT (n_q md_38 rfl) (decide_eq_true h3) ?_
      refine g_go 2 md_38 (i1 := 2) (ls1 := [some (.ref p0), some (.int p1), some (.int (x2 + 1))]) rfl ?_
      cases H
      exact K0 (x2 + 1) rfl
    · rw [if_neg h3] at H
      refine n_ifF (n_q md_38 rfl) (fun e1 => h3 (of_decide_eq_true e1)) ?_
      refine g_go 1 md_38 (i1 := 13) rfl ?_
      cases H
      rw [← Kr _ rfl]
      exact n_iret (n_q md_38 rfl) (Or.inr rfl)
  · rw [if_neg h1] at H
    refine n_cmpT (n_q md_38 rfl) (decide_eq_true (Int32.not_lt.mp h1)) ?_
    refine g_go 1 md_38 (i1 := 17) rfl ?_
    cases H
    rw [← Kr _ rfl]
    exact n_iret (n_q md_38 rfl) (Or.inr rfl)
noncomputable def f38_2L (s : g_S) (p0 : Nat) (p1 : Int32) (x2 : Int32) : Option (Int32) := g_run (fun S : Int32 => f38_2 s p0 p1 S) x2
theorem f38_2L_eq (s : g_S) (p0 : Nat) (p1 : Int32) (x2 : Int32) : f38_2L s p0 p1 x2 = g_st (f38_2 s p0 p1 x2) (fun S => f38_2L s p0 p1 S) := by
  unfold f38_2L
  exact g_run_eq _ _
theorem P38_2L {d ex : Nat} {s : g_S} {p0 : Nat} {p1 : Int32} {x2 : Int32} (ph0 : g_lay p0 = o_4 p0)  {z : (Int32)} (H : f38_2L s p0 p1 x2 = some z) (hd : 13 ≤ d)  : n_R X (d + 1) 38 2 [some (.ref p0), some (.int p1), some (.int x2)] [] (g_M s ex) (g_rPI s z ex) := by
  unfold f38_2L at H
  refine g_rs (Q := fun S => n_R X (d + 1) 38 2 [some (.ref p0), some (.int p1), some (.int S)] [] (g_M s ex) (g_rPI s z ex)) H ?_
  intro S w hb K0 KK
  refine P38_2 ph0 hb hd ?_ ?_
  · exact fun S1 e1 => K0 S1 e1
  · exact fun q e1 => by rw [KK q e1]
noncomputable def f38 (s : g_S) (p0 : Nat) (p1 : Int32) : Option (Int32) := (f38_2L s p0 p1 0)
theorem C38 {d ex : Nat} {s : g_S} {p0 : Nat} {p1 : Int32} (ph0 : g_lay p0 = o_4 p0) {z : Int32} (hd : 13 < d) (H : f38 s p0 p1 = some z) : n_C X d 38 [.ref p0, .int p1] (g_M s ex) (g_rPI s z ex) := by
  obtain ⟨d, rfl⟩ : ∃ d1, d = d1 + 1 := ⟨d - 1, by omega⟩
  replace hd := Nat.le_of_lt_succ hd
  refine ⟨Nat.le_of_ble_eq_true rfl, ?_⟩
  rw [md_38]
  show n_R X (d + 1) 38 0 [some (.ref p0), some (.int p1), none] [] (g_M s ex) _
  unfold f38 at H
  refine g_go 2 md_38 (i1 := 2) (ls1 := [some (.ref p0), some (.int p1), some (.int 0)]) rfl ?_
  exact P38_2L ph0 H hd

theorem md_67 : m_md 67 = m_X5_fail := rfl
noncomputable def f67 (s : g_S) (p1 : Int32) : Option (Int32 × g_S) := (g_let (g_w s 11 1 p1) fun s1 => g_let (g_w s1 11 0 (s1 11 6)) fun s2 => some ((0, s2)))
theorem C67 {d ex : Nat} {s : g_S} {p1 : Int32}  {z : Int32 × g_S} (hd : 12 < d) (H : f67 s p1 = some z) : n_C X d 67 [.ref 11, .int p1] (g_M s ex) (g_rSI z ex) := by
  obtain ⟨d, rfl⟩ : ∃ d1, d = d1 + 1 := ⟨d - 1, by omega⟩
  replace hd := Nat.le_of_lt_succ hd
  refine ⟨Nat.le_of_ble_eq_true rfl, ?_⟩
  rw [md_67]
  show n_R X (d + 1) 67 0 [some (.ref 11), some (.int p1)] [] (g_M s ex) _
  unfold f67 at H
  refine g_go 2 md_67 (i1 := 2) rfl ?_
  obtain ⟨s1, es1, H⟩ := g_letp H
  refine g_putf (n_q md_67 rfl) t_11 rfl rfl es1 ?_
  refine g_go 2 md_67 (i1 := 5) rfl ?_
  refine g_getf (n_q md_67 rfl) t_11 rfl ?_
  obtain ⟨s2, es2, H⟩ := g_letp H
  refine g_putf (n_q md_67 rfl) t_11 rfl rfl es2 ?_
  refine g_go 1 md_67 (i1 := 8) rfl ?_
  cases H
  exact n_iret (n_q md_67 rfl) (Or.inr rfl)

theorem md_69 : m_md 69 = m_X5_isLetter := rfl
noncomputable def f69 (s : g_S) (p0 : Int32) : Option (Int32) := (if p0 < 97 then (some 0) else (if 122 < p0 then (some 0) else (some 1)))
theorem C69 {d ex : Nat} {s : g_S} {p0 : Int32}  {z : Int32} (hd : 12 < d) (H : f69 s p0 = some z) : n_C X d 69 [.int p0] (g_M s ex) (g_rPI s z ex) := by
  obtain ⟨d, rfl⟩ : ∃ d1, d = d1 + 1 := ⟨d - 1, by omega⟩
  replace hd := Nat.le_of_lt_succ hd
  refine ⟨Nat.le_of_ble_eq_true rfl, ?_⟩
  rw [md_69]
  show n_R X (d + 1) 69 0 [some (.int p0)] [] (g_M s ex) _
  unfold f69 at H
  refine g_go 2 md_69 (i1 := 2) rfl ?_
  by_cases h1 : p0 < 97
  · rw [if_pos h1] at H
    refine n_cmpT (n_q md_69 rfl) (decide_eq_true h1) ?_
    refine g_go 1 md_69 (i1 := 9) rfl ?_
    cases H
    exact n_iret (n_q md_69 rfl) (Or.inr rfl)
  · rw [if_neg h1] at H
    refine n_cmpF (n_q md_69 rfl) (fun e1 => h1 (of_decide_eq_true e1)) ?_
    refine g_go 2 md_69 (i1 := 5) rfl ?_
    by_cases h2 : 122 < p0
    · rw [if_pos h2] at H
      refine n_cmpT (n_q md_69 rfl) (decide_eq_true h2) ?_
      refine g_go 1 md_69 (i1 := 9) rfl ?_
      cases H
      exact n_iret (n_q md_69 rfl) (Or.inr rfl)
    · rw [if_neg h2] at H
      refine n_cmpF (n_q md_69 rfl) (fun e1 => h2 (of_decide_eq_true e1)) ?_
      refine g_go 2 md_69 (i1 := 9) rfl ?_
      cases H
      exact n_iret (n_q md_69 rfl) (Or.inr rfl)

noncomputable def f70 (s : g_S) (p0 : Int32) : Option (Int32) := (if p0 < 48 then (some 0) else (if 57 < p0 then (some 0) else (some 1)))
theorem C70 {d ex : Nat} {s : g_S} {p0 : Int32}  {z : Int32} (hd : 12 < d) (H : f70 s p0 = some z) : n_C X d 70 [.int p0] (g_M s ex) (g_rPI s z ex) := by
  obtain ⟨d, rfl⟩ : ∃ d1, d = d1 + 1 := ⟨d - 1, by omega⟩
  replace hd := Nat.le_of_lt_succ hd
  refine ⟨Nat.le_of_ble_eq_true rfl, ?_⟩
  rw [md_70]
  show n_R X (d + 1) 70 0 [some (.int p0)] [] (g_M s ex) _
  unfold f70 at H
  refine g_go 2 md_70 (i1 := 2) rfl ?_
  by_cases h1 : p0 < 48
  · rw [if_pos h1] at H
    refine n_cmpT (n_q md_70 rfl) (decide_eq_true h1) ?_
    refine g_go 1 md_70 (i1 := 9) rfl ?_
    cases H
    exact n_iret (n_q md_70 rfl) (Or.inr rfl)
  · rw [if_neg h1] at H
    refine n_cmpF (n_q md_70 rfl) (fun e1 => h1 (of_decide_eq_true e1)) ?_
    refine g_go 2 md_70 (i1 := 5) rfl ?_
    by_cases h2 : 57 < p0
    · rw [if_pos h2] at H
      refine n_cmpT (n_q md_70 rfl) (decide_eq_true h2) ?_
      refine g_go 1 md_70 (i1 := 9) rfl ?_
      cases H
      exact n_iret (n_q md_70 rfl) (Or.inr rfl)
    · rw [if_neg h2] at H
      refine n_cmpF (n_q md_70 rfl) (fun e1 => h2 (of_decide_eq_true e1)) ?_
      refine g_go 2 md_70 (i1 := 9) rfl ?_
      cases H
      exact n_iret (n_q md_70 rfl) (Or.inr rfl)

theorem md_68 : m_md 68 = m_X5_nextToken := rfl
noncomputable def f68_78 (s : g_S) : Option ((g_S) ⊕ (g_S)) := (if (s 11 7) < (s 11 3) then (if g_lay (s 11 2).toNatClampNeg = (1, ((g_lay (s 11 2).toNatClampNeg).2.1, (g_lay (s 11 2).toNatClampNeg).2.2)) ∧ m_in (s 11 7) (g_lay (s 11 2).toNatClampNeg).2.1 = true then (f70 s (s ((s 11 2).toNatClampNeg) (s 11 7).toNatClampNeg)).bind fun v3 => if v3 = 0 then (some (.inr (s))) else (if g_lay (s 11 2).toNatClampNeg = (1, ((g_lay (s 11 2).toNatClampNeg).2.1, (g_lay (s 11 2).toNatClampNeg).2.2)) ∧ m_in (s 11 7) (g_lay (s 11 2).toNatClampNeg).2.1 = true then g_let (g_w s 11 8 (g_min 10000 (((10 * (s 11 8)) + (s ((s 11 2).toNatClampNeg) (s 11 7).toNatClampNeg)) - 48))) fun s6 => g_let (g_w s6 11 7 ((s6 11 7) + 1)) fun s7 => some (.inl (s7)) else none) else none) else (some (.inr (s))))
theorem P68_78 {d ex : Nat} {rr : m_R} {s : g_S}   {z : ((g_S) ⊕ (g_S))} (H : f68_78 s = some z) (hd : 13 ≤ d) (K0 : ∀ S : g_S, z = .inl S → n_R X (d + 1) 68 78 [some (.ref 11)] [] (g_M S ex) rr) (Kr : ∀ q, z = .inr (q) → g_rSV q ex = rr) : n_R X (d + 1) 68 78 [some (.ref 11)] [] (g_M s ex) rr := by
  unfold f68_78 at H
  refine g_go 1 md_68 (i1 := 79) rfl ?_
  refine g_getf (n_q md_68 rfl) t_11 rfl ?_
  refine g_go 1 md_68 (i1 := 81) rfl ?_
  refine g_getf (n_q md_68 rfl) t_11 rfl ?_
  by_cases h1 : (s 11 7) < (s 11 3)
  · rw [if_pos h1] at H
    refine n_cmpF (n_q md_68 rfl) (fun e1 => absurd (of_decide_eq_true e1) (Int32.not_le.mpr h1)) ?_
    refine g_go 1 md_68 (i1 := 84) rfl ?_
    refine g_getd (n_q md_68 rfl) t_11 rfl ?_
    refine g_go 1 md_68 (i1 := 86) rfl ?_
    refine g_getf (n_q md_68 rfl) t_11 rfl ?_
    obtain ⟨h2, H⟩ := g_gd H
    refine g_iald (n_q md_68 rfl) h2.1 h2.2 ?_
    obtain ⟨v3, hv3, H⟩ := g_bind H
    refine n_callv (n_q md_68 rfl) (As := [.int (s ((s 11 2).toNatClampNeg) (s 11 7).toNatClampNeg)]) (rest := []) rfl rfl (Nat.le_of_ble_eq_true rfl) rfl rfl (C70 (by omega) hv3) ?_
    by_cases h4 : v3 = 0
    · rw [if_pos h4] at H
      refine n_ifT (n_q md_68 rfl) (decide_eq_true h4) ?_
      cases H
      rw [← Kr _ rfl]
      exact n_end (n_q md_68 rfl) (fun _ => rfl)
    · rw [if_neg h4] at H
      refine n_ifF (n_q md_68 rfl) (fun e1 => h4 (of_decide_eq_true e1)) ?_
      refine g_go 4 md_68 (i1 := 94) rfl ?_
      refine g_getf (n_q md_68 rfl) t_11 rfl ?_
      refine g_go 2 md_68 (i1 := 97) rfl ?_
      refine g_getd (n_q md_68 rfl) t_11 rfl ?_
      refine g_go 1 md_68 (i1 := 99) rfl ?_
      refine g_getf (n_q md_68 rfl) t_11 rfl ?_
      obtain ⟨h5, H⟩ := g_gd H
      refine g_iald (n_q md_68 rfl) h5.1 h5.2 ?_
      refine g_go 3 md_68 (i1 := 104) rfl ?_
      refine n_min (n_q md_68 rfl) (by omega) (Nat.le_of_ble_eq_true rfl) ?_
      obtain ⟨s6, es6, H⟩ := g_letp H
      refine g_putf (n_q md_68 rfl) t_11 rfl rfl es6 ?_
      refine g_go 2 md_68 (i1 := 108) rfl ?_
      refine g_getf (n_q md_68 rfl) t_11 rfl ?_
      refine g_go 2 md_68 (i1 := 111) rfl ?_
      obtain ⟨s7, es7, H⟩ := g_letp H
      refine g_putf (n_q md_68 rfl) t_11 rfl rfl es7 ?_
      refine g_go 1 md_68 (i1 := 78) rfl ?_
      cases H
      exact K0 (s7) rfl
  · rw [if_neg h1] at H
    refine n_cmpT (n_q md_68 rfl) (decide_eq_true (Int32.not_lt.mp h1)) ?_
    cases H
    rw [← Kr _ rfl]
    exact n_end (n_q md_68 rfl) (fun _ => rfl)
noncomputable def f68_78L (s : g_S) : Option (g_S) := g_run (fun S : g_S => f68_78 S) s
theorem f68_78L_eq (s : g_S) : f68_78L s = g_st (f68_78 s) (fun S => f68_78L S) := by
  unfold f68_78L
  exact g_run_eq _ _
theorem P68_78L {d ex : Nat} {s : g_S}   {z : (g_S)} (H : f68_78L s = some z) (hd : 13 ≤ d)  : n_R X (d + 1) 68 78 [some (.ref 11)] [] (g_M s ex) (g_rSV z ex) := by
  unfold f68_78L at H
  refine g_rs (Q := fun S => n_R X (d + 1) 68 78 [some (.ref 11)] [] (g_M S ex) (g_rSV z ex)) H ?_
  intro S w hb K0 KK
  refine P68_78 hb hd ?_ ?_
  · exact fun S1 e1 => K0 S1 e1
  · exact fun q e1 => by rw [KK q e1]
noncomputable def f68_46 (s : g_S) : Option ((g_S) ⊕ (g_S)) := (if (s 11 7) < (s 11 3) then (if g_lay (s 11 2).toNatClampNeg = (1, ((g_lay (s 11 2).toNatClampNeg).2.1, (g_lay (s 11 2).toNatClampNeg).2.2)) ∧ m_in (s 11 7) (g_lay (s 11 2).toNatClampNeg).2.1 = true then (f69 s (s ((s 11 2).toNatClampNeg) (s 11 7).toNatClampNeg)).bind fun v3 => if v3 = 0 then (some (.inr (s))) else (g_let (g_w s 11 7 ((s 11 7) + 1)) fun s5 => some (.inl (s5))) else none) else (some (.inr (s))))
theorem P68_46 {d ex : Nat} {rr : m_R} {s : g_S}   {z : ((g_S) ⊕ (g_S))} (H : f68_46 s = some z) (hd : 13 ≤ d) (K0 : ∀ S : g_S, z = .inl S → n_R X (d + 1) 68 46 [some (.ref 11)] [] (g_M S ex) rr) (Kr : ∀ q, z = .inr (q) → g_rSV q ex = rr) : n_R X (d + 1) 68 46 [some (.ref 11)] [] (g_M s ex) rr := by
  unfold f68_46 at H
  refine g_go 1 md_68 (i1 := 47) rfl ?_
  refine g_getf (n_q md_68 rfl) t_11 rfl ?_
  refine g_go 1 md_68 (i1 := 49) rfl ?_
  refine g_getf (n_q md_68 rfl) t_11 rfl ?_
  by_cases h1 : (s 11 7) < (s 11 3)
  · rw [if_pos h1] at H
    refine n_cmpF (n_q md_68 rfl) (fun e1 => absurd (of_decide_eq_true e1) (Int32.not_le.mpr h1)) ?_
    refine g_go 1 md_68 (i1 := 52) rfl ?_
    refine g_getd (n_q md_68 rfl) t_11 rfl ?_
    refine g_go 1 md_68 (i1 := 54) rfl ?_
    refine g_getf (n_q md_68 rfl) t_11 rfl ?_
    obtain ⟨h2, H⟩ := g_gd H
    refine g_iald (n_q md_68 rfl) h2.1 h2.2 ?_
    obtain ⟨v3, hv3, H⟩ := g_bind H
    refine n_callv (n_q md_68 rfl) (As := [.int (s ((s 11 2).toNatClampNeg) (s 11 7).toNatClampNeg)]) (rest := []) rfl rfl (Nat.le_of_ble_eq_true rfl) rfl rfl (C69 (by omega) hv3) ?_
    by_cases h4 : v3 = 0
    · rw [if_pos h4] at H
      refine n_ifT (n_q md_68 rfl) (decide_eq_true h4) ?_
      cases H
      rw [← Kr _ rfl]
      exact n_end (n_q md_68 rfl) (fun _ => rfl)
    · rw [if_neg h4] at H
      refine n_ifF (n_q md_68 rfl) (fun e1 => h4 (of_decide_eq_true e1)) ?_
      refine g_go 2 md_68 (i1 := 60) rfl ?_
      refine g_getf (n_q md_68 rfl) t_11 rfl ?_
      refine g_go 2 md_68 (i1 := 63) rfl ?_
      obtain ⟨s5, es5, H⟩ := g_letp H
      refine g_putf (n_q md_68 rfl) t_11 rfl rfl es5 ?_
      refine g_go 1 md_68 (i1 := 46) rfl ?_
      cases H
      exact K0 (s5) rfl
  · rw [if_neg h1] at H
    refine n_cmpT (n_q md_68 rfl) (decide_eq_true (Int32.not_lt.mp h1)) ?_
    cases H
    rw [← Kr _ rfl]
    exact n_end (n_q md_68 rfl) (fun _ => rfl)
noncomputable def f68_46L (s : g_S) : Option (g_S) := g_run (fun S : g_S => f68_46 S) s
theorem f68_46L_eq (s : g_S) : f68_46L s = g_st (f68_46 s) (fun S => f68_46L S) := by
  unfold f68_46L
  exact g_run_eq _ _
theorem P68_46L {d ex : Nat} {s : g_S}   {z : (g_S)} (H : f68_46L s = some z) (hd : 13 ≤ d)  : n_R X (d + 1) 68 46 [some (.ref 11)] [] (g_M s ex) (g_rSV z ex) := by
  unfold f68_46L at H
  refine g_rs (Q := fun S => n_R X (d + 1) 68 46 [some (.ref 11)] [] (g_M S ex) (g_rSV z ex)) H ?_
  intro S w hb K0 KK
  refine P68_46 hb hd ?_ ?_
  · exact fun S1 e1 => K0 S1 e1
  · exact fun q e1 => by rw [KK q e1]
noncomputable def f68_23 (s : g_S) : Option (g_S) := (g_let (g_w s 11 7 (s 11 6)) fun s1 => if (s1 11 6) < (s1 11 3) then (if g_lay (s1 11 2).toNatClampNeg = (1, ((g_lay (s1 11 2).toNatClampNeg).2.1, (g_lay (s1 11 2).toNatClampNeg).2.2)) ∧ m_in (s1 11 6) (g_lay (s1 11 2).toNatClampNeg).2.1 = true then (f69 s1 (s1 ((s1 11 2).toNatClampNeg) (s1 11 6).toNatClampNeg)).bind fun v4 => if v4 = 0 then (if g_lay (s1 11 2).toNatClampNeg = (1, ((g_lay (s1 11 2).toNatClampNeg).2.1, (g_lay (s1 11 2).toNatClampNeg).2.2)) ∧ m_in (s1 11 6) (g_lay (s1 11 2).toNatClampNeg).2.1 = true then (f70 s1 (s1 ((s1 11 2).toNatClampNeg) (s1 11 6).toNatClampNeg)).bind fun v7 => if v7 = 0 then (if g_lay (s1 11 2).toNatClampNeg = (1, ((g_lay (s1 11 2).toNatClampNeg).2.1, (g_lay (s1 11 2).toNatClampNeg).2.2)) ∧ m_in (s1 11 6) (g_lay (s1 11 2).toNatClampNeg).2.1 = true then g_let (g_w s1 11 5 (s1 ((s1 11 2).toNatClampNeg) (s1 11 6).toNatClampNeg)) fun s10 => g_let (g_w s10 11 7 ((s10 11 7) + 1)) fun s11 => some s11 else none) else (g_let (g_w s1 11 5 257) fun s9 => g_let (g_w s9 11 8 0) fun s10 => f68_78L s10) else none) else (g_let (g_w s1 11 5 256) fun s6 => f68_46L s6) else none) else (g_let (g_w s1 11 5 258) fun s3 => some s3))
theorem P68_23 {d ex : Nat} {s : g_S}   {z : (g_S)} (H : f68_23 s = some z) (hd : 13 ≤ d)  : n_R X (d + 1) 68 23 [some (.ref 11)] [] (g_M s ex) (g_rSV z ex) := by
  unfold f68_23 at H
  refine g_go 2 md_68 (i1 := 25) rfl ?_
  refine g_getf (n_q md_68 rfl) t_11 rfl ?_
  obtain ⟨s1, es1, H⟩ := g_letp H
  refine g_putf (n_q md_68 rfl) t_11 rfl rfl es1 ?_
  refine g_go 1 md_68 (i1 := 28) rfl ?_
  refine g_getf (n_q md_68 rfl) t_11 rfl ?_
  refine g_go 1 md_68 (i1 := 30) rfl ?_
  refine g_getf (n_q md_68 rfl) t_11 rfl ?_
  by_cases h2 : (s1 11 6) < (s1 11 3)
  · rw [if_pos h2] at H
    refine n_cmpT (n_q md_68 rfl) (decide_eq_true h2) ?_
    refine g_go 1 md_68 (i1 := 37) rfl ?_
    refine g_getd (n_q md_68 rfl) t_11 rfl ?_
    refine g_go 1 md_68 (i1 := 39) rfl ?_
    refine g_getf (n_q md_68 rfl) t_11 rfl ?_
    obtain ⟨h3, H⟩ := g_gd H
    refine g_iald (n_q md_68 rfl) h3.1 h3.2 ?_
    obtain ⟨v4, hv4, H⟩ := g_bind H
    refine n_callv (n_q md_68 rfl) (As := [.int (s1 ((s1 11 2).toNatClampNeg) (s1 11 6).toNatClampNeg)]) (rest := []) rfl rfl (Nat.le_of_ble_eq_true rfl) rfl rfl (C69 (by omega) hv4) ?_
    by_cases h5 : v4 = 0
    · rw [if_pos h5] at H
      refine n_ifT (n_q md_68 rfl) (decide_eq_true h5) ?_
      refine g_go 1 md_68 (i1 := 66) rfl ?_
      refine g_getd (n_q md_68 rfl) t_11 rfl ?_
      refine g_go 1 md_68 (i1 := 68) rfl ?_
      refine g_getf (n_q md_68 rfl) t_11 rfl ?_
      obtain ⟨h6, H⟩ := g_gd H
      refine g_iald (n_q md_68 rfl) h6.1 h6.2 ?_
      obtain ⟨v7, hv7, H⟩ := g_bind H
      refine n_callv (n_q md_68 rfl) (As := [.int (s1 ((s1 11 2).toNatClampNeg) (s1 11 6).toNatClampNeg)]) (rest := []) rfl rfl (Nat.le_of_ble_eq_true rfl) rfl rfl (C70 (by omega) hv7) ?_
      by_cases h8 : v7 = 0
      · rw [if_pos h8] at H
        refine n_ifT (n_q md_68 rfl) (decide_eq_true h8) ?_
        refine g_go 2 md_68 (i1 := 115) rfl ?_
        refine g_getd (n_q md_68 rfl) t_11 rfl ?_
        refine g_go 1 md_68 (i1 := 117) rfl ?_
        refine g_getf (n_q md_68 rfl) t_11 rfl ?_
        obtain ⟨h9, H⟩ := g_gd H
        refine g_iald (n_q md_68 rfl) h9.1 h9.2 ?_
        obtain ⟨s10, es10, H⟩ := g_letp H
        refine g_putf (n_q md_68 rfl) t_11 rfl rfl es10 ?_
        refine g_go 2 md_68 (i1 := 122) rfl ?_
        refine g_getf (n_q md_68 rfl) t_11 rfl ?_
        refine g_go 2 md_68 (i1 := 125) rfl ?_
        obtain ⟨s11, es11, H⟩ := g_letp H
        refine g_putf (n_q md_68 rfl) t_11 rfl rfl es11 ?_
        cases H
        exact n_end (n_q md_68 rfl) (fun _ => rfl)
      · rw [if_neg h8] at H
        refine n_ifF (n_q md_68 rfl) (fun e1 => h8 (of_decide_eq_true e1)) ?_
        refine g_go 2 md_68 (i1 := 74) rfl ?_
        obtain ⟨s9, es9, H⟩ := g_letp H
        refine g_putf (n_q md_68 rfl) t_11 rfl rfl es9 ?_
        refine g_go 2 md_68 (i1 := 77) rfl ?_
        obtain ⟨s10, es10, H⟩ := g_letp H
        refine g_putf (n_q md_68 rfl) t_11 rfl rfl es10 ?_
        exact P68_78L H hd
    · rw [if_neg h5] at H
      refine n_ifF (n_q md_68 rfl) (fun e1 => h5 (of_decide_eq_true e1)) ?_
      refine g_go 2 md_68 (i1 := 45) rfl ?_
      obtain ⟨s6, es6, H⟩ := g_letp H
      refine g_putf (n_q md_68 rfl) t_11 rfl rfl es6 ?_
      exact P68_46L H hd
  · rw [if_neg h2] at H
    refine n_cmpF (n_q md_68 rfl) (fun e1 => h2 (of_decide_eq_true e1)) ?_
    refine g_go 2 md_68 (i1 := 34) rfl ?_
    obtain ⟨s3, es3, H⟩ := g_letp H
    refine g_putf (n_q md_68 rfl) t_11 rfl rfl es3 ?_
    refine g_go 1 md_68 (i1 := 126) rfl ?_
    cases H
    exact n_end (n_q md_68 rfl) (fun _ => rfl)
noncomputable def f68_4 (s : g_S) : Option ((g_S) ⊕ (g_S)) := (if (s 11 6) < (s 11 3) then (if g_lay (s 11 2).toNatClampNeg = (1, ((g_lay (s 11 2).toNatClampNeg).2.1, (g_lay (s 11 2).toNatClampNeg).2.2)) ∧ m_in (s 11 6) (g_lay (s 11 2).toNatClampNeg).2.1 = true then if (s ((s 11 2).toNatClampNeg) (s 11 6).toNatClampNeg) = 32 then (g_let (g_w s 11 6 ((s 11 6) + 1)) fun s4 => some (.inl (s4))) else (Option.map (fun w => (.inr (w) : ((g_S) ⊕ (g_S)))) (f68_23 s)) else none) else (Option.map (fun w => (.inr (w) : ((g_S) ⊕ (g_S)))) (f68_23 s)))
theorem P68_4 {d ex : Nat} {rr : m_R} {s : g_S}   {z : ((g_S) ⊕ (g_S))} (H : f68_4 s = some z) (hd : 13 ≤ d) (K0 : ∀ S : g_S, z = .inl S → n_R X (d + 1) 68 4 [some (.ref 11)] [] (g_M S ex) rr) (Kr : ∀ q, z = .inr (q) → g_rSV q ex = rr) : n_R X (d + 1) 68 4 [some (.ref 11)] [] (g_M s ex) rr := by
  unfold f68_4 at H
  refine g_go 1 md_68 (i1 := 5) rfl ?_
  refine g_getf (n_q md_68 rfl) t_11 rfl ?_
  refine g_go 1 md_68 (i1 := 7) rfl ?_
  refine g_getf (n_q md_68 rfl) t_11 rfl ?_
  by_cases h1 : (s 11 6) < (s 11 3)
  · rw [if_pos h1] at H
    refine n_cmpF (n_q md_68 rfl) (fun e1 => absurd (of_decide_eq_true e1) (Int32.not_le.mpr h1)) ?_
    refine g_go 1 md_68 (i1 := 10) rfl ?_
    refine g_getd (n_q md_68 rfl) t_11 rfl ?_
    refine g_go 1 md_68 (i1 := 12) rfl ?_
    refine g_getf (n_q md_68 rfl) t_11 rfl ?_
    obtain ⟨h2, H⟩ := g_gd H
    refine g_iald (n_q md_68 rfl) h2.1 h2.2 ?_
    refine g_go 1 md_68 (i1 := 15) rfl ?_
    by_cases h3 : (s ((s 11 2).toNatClampNeg) (s 11 6).toNatClampNeg) = 32
    · rw [if_pos h3] at H
      refine n_cmpF (n_q md_68 rfl) (fun e1 => of_decide_eq_true e1 h3) ?_
      refine g_go 2 md_68 (i1 := 18) rfl ?_
      refine g_getf (n_q md_68 rfl) t_11 rfl ?_
      refine g_go 2 md_68 (i1 := 21) rfl ?_
      obtain ⟨s4, es4, H⟩ := g_letp H
      refine g_putf (n_q md_68 rfl) t_11 rfl rfl es4 ?_
      refine g_go 1 md_68 (i1 := 4) rfl ?_
      cases H
      exact K0 (s4) rfl
    · rw [if_neg h3] at H
      refine n_cmpT (n_q md_68 rfl) (decide_eq_true h3) ?_
      obtain ⟨w, hw, H⟩ := g_mapp H
      subst H
      rw [← Kr _ rfl]
      exact P68_23 hw hd
  · rw [if_neg h1] at H
    refine n_cmpT (n_q md_68 rfl) (decide_eq_true (Int32.not_lt.mp h1)) ?_
    obtain ⟨w, hw, H⟩ := g_mapp H
    subst H
    rw [← Kr _ rfl]
    exact P68_23 hw hd
noncomputable def f68_4L (s : g_S) : Option (g_S) := g_run (fun S : g_S => f68_4 S) s
theorem f68_4L_eq (s : g_S) : f68_4L s = g_st (f68_4 s) (fun S => f68_4L S) := by
  unfold f68_4L
  exact g_run_eq _ _
theorem P68_4L {d ex : Nat} {s : g_S}   {z : (g_S)} (H : f68_4L s = some z) (hd : 13 ≤ d)  : n_R X (d + 1) 68 4 [some (.ref 11)] [] (g_M s ex) (g_rSV z ex) := by
  unfold f68_4L at H
  refine g_rs (Q := fun S => n_R X (d + 1) 68 4 [some (.ref 11)] [] (g_M S ex) (g_rSV z ex)) H ?_
  intro S w hb K0 KK
  refine P68_4 hb hd ?_ ?_
  · exact fun S1 e1 => K0 S1 e1
  · exact fun q e1 => by rw [KK q e1]
noncomputable def f68 (s : g_S) : Option (g_S) := (g_let (g_w s 11 6 (s 11 7)) fun s1 => f68_4L s1)
theorem C68 {d ex : Nat} {s : g_S}  {z : g_S} (hd : 13 < d) (H : f68 s = some z) : n_C X d 68 [.ref 11] (g_M s ex) (g_rSV z ex) := by
  obtain ⟨d, rfl⟩ : ∃ d1, d = d1 + 1 := ⟨d - 1, by omega⟩
  replace hd := Nat.le_of_lt_succ hd
  refine ⟨Nat.le_of_ble_eq_true rfl, ?_⟩
  rw [md_68]
  show n_R X (d + 1) 68 0 [some (.ref 11)] [] (g_M s ex) _
  unfold f68 at H
  refine g_go 2 md_68 (i1 := 2) rfl ?_
  refine g_getf (n_q md_68 rfl) t_11 rfl ?_
  obtain ⟨s1, es1, H⟩ := g_letp H
  refine g_putf (n_q md_68 rfl) t_11 rfl rfl es1 ?_
  exact P68_4L H hd

end K1
