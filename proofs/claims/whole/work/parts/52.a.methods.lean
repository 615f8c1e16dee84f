/-! METHODS, written by wip/whole/gen_51.py (0). -/
section K0
variable {X : m_X}
theorem md_17 : m_md 17 = m_X2_setTo := rfl
noncomputable def f17 (s : g_S) (p0 : Nat) (p1 : Nat) : Option (g_S) := (g_let (g_w s p0 0 (s p1 0)) fun s1 => if ¬ (0 : Int32) < 0 ∧ ¬ (0 : Int32) < 0 ∧ ¬ (20 : Int32) < 0 ∧ 0 + 20 ≤ 20 ∧ 0 + 20 ≤ 20 then g_let (g_wa s1 (p0 + 1) (va_cpy (s1 (p1 + 1)) (s1 (p0 + 1)) 0 0 20)) fun s3 => if ¬ (0 : Int32) < 0 ∧ ¬ (0 : Int32) < 0 ∧ ¬ (20 : Int32) < 0 ∧ 0 + 20 ≤ 20 ∧ 0 + 20 ≤ 20 then g_let (g_wa s3 (p0 + 2) (va_cpy (s3 (p1 + 2)) (s3 (p0 + 2)) 0 0 20)) fun s5 => some s5 else none else none)
theorem C17 {d ex : Nat} {s : g_S} {p0 : Nat} {p1 : Nat} (ph0 : g_lay p0 = o_2 p0) (ph1 : g_lay p1 = o_2 p1) {z : g_S} (hd : 12 < d) (H : f17 s p0 p1 = some z) : n_C X d 17 [.ref p0, .ref p1] (g_M s ex) (g_rSV z ex) := by
  obtain ⟨d, rfl⟩ : ∃ d1, d = d1 + 1 := ⟨d - 1, by omega⟩
  replace hd := Nat.le_of_lt_succ hd
  refine ⟨Nat.le_of_ble_eq_true rfl, ?_⟩
  rw [md_17]
  show n_R X (d + 1) 17 0 [some (.ref p0), some (.ref p1)] [] (g_M s ex) _
  unfold f17 at H
  refine g_go 2 md_17 (i1 := 2) rfl ?_
  refine g_getf (n_q md_17 rfl) ph1 rfl ?_
  obtain ⟨s1, es1, H⟩ := g_letp H
  refine g_putf (n_q md_17 rfl) ph0 rfl rfl es1 ?_
  refine g_go 1 md_17 (i1 := 5) rfl ?_
  refine g_getr (p1 + 1) (n_q md_17 rfl) ph1 rfl ?_
  refine g_go 2 md_17 (i1 := 8) rfl ?_
  refine g_getr (p0 + 1) (n_q md_17 rfl) ph0 rfl ?_
  refine g_go 2 md_17 (i1 := 11) rfl ?_
  obtain ⟨h2, H⟩ := g_gd H
  obtain ⟨s3, es3, H⟩ := g_letp H
  refine g_copy (n_q md_17 rfl) (by omega) (tf_2_1 ph1) (tf_2_1 ph0) (Nat.le_of_ble_eq_true rfl) h2.1 h2.2.1 h2.2.2.1 h2.2.2.2.1 h2.2.2.2.2 es3 ?_
  refine g_go 1 md_17 (i1 := 13) rfl ?_
  refine g_getr (p1 + 2) (n_q md_17 rfl) ph1 rfl ?_
  refine g_go 2 md_17 (i1 := 16) rfl ?_
  refine g_getr (p0 + 2) (n_q md_17 rfl) ph0 rfl ?_
  refine g_go 2 md_17 (i1 := 19) rfl ?_
  obtain ⟨h4, H⟩ := g_gd H
  obtain ⟨s5, es5, H⟩ := g_letp H
  refine g_copy (n_q md_17 rfl) (by omega) (tf_2_2 ph1) (tf_2_2 ph0) (Nat.le_of_ble_eq_true rfl) h4.1 h4.2.1 h4.2.2.1 h4.2.2.2.1 h4.2.2.2.2 es5 ?_
  cases H
  exact n_end (n_q md_17 rfl) (fun _ => rfl)

theorem md_24 : m_md 24 = m_X3_setTo := rfl
noncomputable def f24 (s : g_S) (p0 : Nat) (p1 : Nat) : Option (g_S) := (g_let (g_w s p0 0 (s p1 0)) fun s1 => g_let (g_w s1 p0 1 (s1 p1 1)) fun s2 => g_let (g_w s2 p0 2 (s2 p1 2)) fun s3 => g_let (g_w s3 p0 3 (s3 p1 3)) fun s4 => g_let (g_w s4 p0 4 (s4 p1 4)) fun s5 => g_let (g_w s5 p0 5 (s5 p1 5)) fun s6 => g_let (g_w s6 p0 6 (s6 p1 6)) fun s7 => g_let (g_w s7 p0 7 (s7 p1 7)) fun s8 => some s8)
theorem C24 {d ex : Nat} {s : g_S} {p0 : Nat} {p1 : Nat} (ph0 : g_lay p0 = o_3 p0) (ph1 : g_lay p1 = o_3 p1) {z : g_S} (hd : 12 < d) (H : f24 s p0 p1 = some z) : n_C X d 24 [.ref p0, .ref p1] (g_M s ex) (g_rSV z ex) := by
  obtain ⟨d, rfl⟩ : ∃ d1, d = d1 + 1 := ⟨d - 1, by omega⟩
  replace hd := Nat.le_of_lt_succ hd
  refine ⟨Nat.le_of_ble_eq_true rfl, ?_⟩
  rw [md_24]
  show n_R X (d + 1) 24 0 [some (.ref p0), some (.ref p1)] [] (g_M s ex) _
  unfold f24 at H
  refine g_go 2 md_24 (i1 := 2) rfl ?_
  refine g_getf (n_q md_24 rfl) ph1 rfl ?_
  obtain ⟨s1, es1, H⟩ := g_letp H
  refine g_putf (n_q md_24 rfl) ph0 rfl rfl es1 ?_
  refine g_go 2 md_24 (i1 := 6) rfl ?_
  refine g_getf (n_q md_24 rfl) ph1 rfl ?_
  obtain ⟨s2, es2, H⟩ := g_letp H
  refine g_putf (n_q md_24 rfl) ph0 rfl rfl es2 ?_
  refine g_go 2 md_24 (i1 := 10) rfl ?_
  refine g_getf (n_q md_24 rfl) ph1 rfl ?_
  obtain ⟨s3, es3, H⟩ := g_letp H
  refine g_putf (n_q md_24 rfl) ph0 rfl rfl es3 ?_
  refine g_go 2 md_24 (i1 := 14) rfl ?_
  refine g_getf (n_q md_24 rfl) ph1 rfl ?_
  obtain ⟨s4, es4, H⟩ := g_letp H
  refine g_putf (n_q md_24 rfl) ph0 rfl rfl es4 ?_
  refine g_go 2 md_24 (i1 := 18) rfl ?_
  refine g_getf (n_q md_24 rfl) ph1 rfl ?_
  obtain ⟨s5, es5, H⟩ := g_letp H
  refine g_putf (n_q md_24 rfl) ph0 rfl rfl es5 ?_
  refine g_go 2 md_24 (i1 := 22) rfl ?_
  refine g_getf (n_q md_24 rfl) ph1 rfl ?_
  obtain ⟨s6, es6, H⟩ := g_letp H
  refine g_putf (n_q md_24 rfl) ph0 rfl rfl es6 ?_
  refine g_go 2 md_24 (i1 := 26) rfl ?_
  refine g_getf (n_q md_24 rfl) ph1 rfl ?_
  obtain ⟨s7, es7, H⟩ := g_letp H
  refine g_putf (n_q md_24 rfl) ph0 rfl rfl es7 ?_
  refine g_go 2 md_24 (i1 := 30) rfl ?_
  refine g_getf (n_q md_24 rfl) ph1 rfl ?_
  obtain ⟨s8, es8, H⟩ := g_letp H
  refine g_putf (n_q md_24 rfl) ph0 rfl rfl es8 ?_
  cases H
  exact n_end (n_q md_24 rfl) (fun _ => rfl)

theorem md_76 : m_md 76 = m_X6_setTo := rfl
noncomputable def f76 (s : g_S) (p0 : Nat) (p1 : Nat) : Option (g_S) := (g_let (g_w s p0 0 (s p1 0)) fun s1 => g_let (g_w s1 p0 1 (s1 p1 1)) fun s2 => g_let (g_w s2 p0 2 (s2 p1 2)) fun s3 => some s3)
theorem C76 {d ex : Nat} {s : g_S} {p0 : Nat} {p1 : Nat} (ph0 : g_lay p0 = o_6 p0) (ph1 : g_lay p1 = o_6 p1) {z : g_S} (hd : 12 < d) (H : f76 s p0 p1 = some z) : n_C X d 76 [.ref p0, .ref p1] (g_M s ex) (g_rSV z ex) := by
  obtain ⟨d, rfl⟩ : ∃ d1, d = d1 + 1 := ⟨d - 1, by omega⟩
  replace hd := Nat.le_of_lt_succ hd
  refine ⟨Nat.le_of_ble_eq_true rfl, ?_⟩
  rw [md_76]
  show n_R X (d + 1) 76 0 [some (.ref p0), some (.ref p1)] [] (g_M s ex) _
  unfold f76 at H
  refine g_go 2 md_76 (i1 := 2) rfl ?_
  refine g_getf (n_q md_76 rfl) ph1 rfl ?_
  obtain ⟨s1, es1, H⟩ := g_letp H
  refine g_putf (n_q md_76 rfl) ph0 rfl rfl es1 ?_
  refine g_go 2 md_76 (i1 := 6) rfl ?_
  refine g_getf (n_q md_76 rfl) ph1 rfl ?_
  obtain ⟨s2, es2, H⟩ := g_letp H
  refine g_putf (n_q md_76 rfl) ph0 rfl rfl es2 ?_
  refine g_go 2 md_76 (i1 := 10) rfl ?_
  refine g_getf (n_q md_76 rfl) ph1 rfl ?_
  obtain ⟨s3, es3, H⟩ := g_letp H
  refine g_putf (n_q md_76 rfl) ph0 rfl rfl es3 ?_
  cases H
  exact n_end (n_q md_76 rfl) (fun _ => rfl)

theorem md_1 : m_md 1 = m_X0_setTo := rfl
noncomputable def f1_34 (s : g_S) (p0 : Nat) (p1 : Nat) : Option (g_S) := ((f17 s (p0 + 3) (p1 + 3)).bind fun s2 => g_let (g_w s2 p0 1 (s2 p1 1)) fun s3 => g_let (g_w s3 p0 2 (s3 p1 2)) fun s4 => g_let (g_w s4 p0 3 (s4 p1 3)) fun s5 => g_let (g_w s5 p0 4 (s5 p1 4)) fun s6 => g_let (g_w s6 p0 5 (s6 p1 5)) fun s7 => g_let (g_w s7 p0 7 (s7 p1 7)) fun s8 => some s8)
theorem P1_34 {d ex : Nat} {s : g_S} {p0 : Nat} {p1 : Nat} {u2 : Option Value} (ph0 : g_lay p0 = o_0 p0) (ph1 : g_lay p1 = o_0 p1)  {z : (g_S)} (H : f1_34 s p0 p1 = some z) (hd : 13 ≤ d)  : n_R X (d + 1) 1 34 [some (.ref p0), some (.ref p1), u2] [] (g_M s ex) (g_rSV z ex) := by
  unfold f1_34 at H
  refine g_go 1 md_1 (i1 := 35) rfl ?_
  refine g_getr (p0 + 3) (n_q md_1 rfl) ph0 rfl ?_
  refine g_go 1 md_1 (i1 := 37) rfl ?_
  refine g_getr (p1 + 3) (n_q md_1 rfl) ph1 rfl ?_
  obtain ⟨s2, hs2, H⟩ := g_bind H
  refine n_call (n_q md_1 rfl) (As := [.ref (p0 + 3), .ref (p1 + 3)]) (rest := []) rfl rfl (Nat.le_of_ble_eq_true rfl) rfl (g_recv (b := 0) rfl (tf_0_8 ph0) rfl) (C17 (tf_0_8 ph0) (tf_0_8 ph1) (by omega) hs2) ?_
  refine g_go 2 md_1 (i1 := 41) rfl ?_
  refine g_getf (n_q md_1 rfl) ph1 rfl ?_
  obtain ⟨s3, es3, H⟩ := g_letp H
  refine g_putf (n_q md_1 rfl) ph0 rfl rfl es3 ?_
  refine g_go 2 md_1 (i1 := 45) rfl ?_
  refine g_getf (n_q md_1 rfl) ph1 rfl ?_
  obtain ⟨s4, es4, H⟩ := g_letp H
  refine g_putf (n_q md_1 rfl) ph0 rfl rfl es4 ?_
  refine g_go 2 md_1 (i1 := 49) rfl ?_
  refine g_getf (n_q md_1 rfl) ph1 rfl ?_
  obtain ⟨s5, es5, H⟩ := g_letp H
  refine g_putf (n_q md_1 rfl) ph0 rfl rfl es5 ?_
  refine g_go 2 md_1 (i1 := 53) rfl ?_
  refine g_getf (n_q md_1 rfl) ph1 rfl ?_
  obtain ⟨s6, es6, H⟩ := g_letp H
  refine g_putf (n_q md_1 rfl) ph0 rfl rfl es6 ?_
  refine g_go 2 md_1 (i1 := 57) rfl ?_
  refine g_getf (n_q md_1 rfl) ph1 rfl ?_
  obtain ⟨s7, es7, H⟩ := g_letp H
  refine g_putf (n_q md_1 rfl) ph0 rfl rfl es7 ?_
  refine g_go 2 md_1 (i1 := 61) rfl ?_
  refine g_getf (n_q md_1 rfl) ph1 rfl ?_
  obtain ⟨s8, es8, H⟩ := g_letp H
  refine g_putf (n_q md_1 rfl) ph0 rfl rfl es8 ?_
  cases H
  exact n_end (n_q md_1 rfl) (fun _ => rfl)
noncomputable def f1_19 (s : g_S) (p0 : Nat) (p1 : Nat) (x2 : Int32) : Option ((Int32 × g_S) ⊕ (g_S)) := (if x2 < (s p1 7) then (if m_in x2 8 = true then (f76 s (p0 + 19 + x2.toNatClampNeg) (p1 + 19 + x2.toNatClampNeg)).bind fun s4 => some (.inl (x2 + 1, s4)) else none) else (Option.map (fun w => (.inr (w) : ((Int32 × g_S) ⊕ (g_S)))) (f1_34 s p0 p1)))
theorem P1_19 {d ex : Nat} {rr : m_R} {s : g_S} {p0 : Nat} {p1 : Nat} {x2 : Int32} (ph0 : g_lay p0 = o_0 p0) (ph1 : g_lay p1 = o_0 p1)  {z : ((Int32 × g_S) ⊕ (g_S))} (H : f1_19 s p0 p1 x2 = some z) (hd : 13 ≤ d) (K0 : ∀ S : Int32 × g_S, z = .inl S → n_R X (d + 1) 1 19 [some (.ref p0), some (.ref p1), some (.int S.1)] [] (g_M S.2 ex) rr) (Kr : ∀ q, z = .inr (q) → g_rSV q ex = rr) : n_R X (d + 1) 1 19 [some (.ref p0), some (.ref p1), some (.int x2)] [] (g_M s ex) rr := by
  unfold f1_19 at H
  refine g_go 2 md_1 (i1 := 21) rfl ?_
  refine g_getf (n_q md_1 rfl) ph1 rfl ?_
  by_cases h1 : x2 < (s p1 7)
  · rw [if_pos h1] at H
    refine n_cmpF (n_q md_1 rfl) (fun e1 => absurd (of_decide_eq_true e1) (Int32.not_le.mpr h1)) ?_
    refine g_go 1 md_1 (i1 := 24) rfl ?_
    refine g_getr (p0 + 2) (n_q md_1 rfl) ph0 rfl ?_
    refine g_go 1 md_1 (i1 := 26) rfl ?_
    obtain ⟨h2, H⟩ := g_gd H
    refine g_aald (n_q md_1 rfl) (tf_0_6 ph0) (by decide) h2 (g_range (g_inlt h2)) ?_
    refine g_go 1 md_1 (i1 := 28) rfl ?_
    refine g_getr (p1 + 2) (n_q md_1 rfl) ph1 rfl ?_
    refine g_go 1 md_1 (i1 := 30) rfl ?_
    refine g_aald (n_q md_1 rfl) (tf_0_6 ph1) (by decide) h2 (g_range (g_inlt h2)) ?_
    obtain ⟨s4, hs4, H⟩ := g_bind H
    refine n_call (n_q md_1 rfl) (As := [.ref (p0 + 19 + x2.toNatClampNeg), .ref (p1 + 19 + x2.toNatClampNeg)]) (rest := []) rfl rfl (Nat.le_of_ble_eq_true rfl) rfl (g_recv (b := 0) rfl (te_7 ph0 (g_inlt h2)) rfl) (C76 (te_7 ph0 (g_inlt h2)) (te_7 ph1 (g_inlt h2)) (by omega) hs4) ?_
    refine g_go 2 md_1 (i1 := 19) (ls1 := [some (.ref p0), some (.ref p1), some (.int (x2 + 1))]) rfl ?_
    cases H
    exact K0 (x2 + 1, s4) rfl
  · rw [if_neg h1] at H
    refine n_cmpT (n_q md_1 rfl) (decide_eq_true (Int32.not_lt.mp h1)) ?_
    obtain ⟨w, hw, H⟩ := g_mapp H
    subst H
    rw [← Kr _ rfl]
    exact P1_34 ph0 ph1 hw hd
noncomputable def f1_19L (s : g_S) (p0 : Nat) (p1 : Nat) (x2 : Int32) : Option (g_S) := g_run (fun S : Int32 × g_S => f1_19 S.2 p0 p1 S.1) (x2, s)
theorem f1_19L_eq (s : g_S) (p0 : Nat) (p1 : Nat) (x2 : Int32) : f1_19L s p0 p1 x2 = g_st (f1_19 s p0 p1 x2) (fun S => f1_19L S.2 p0 p1 S.1) := by
  unfold f1_19L
  exact g_run_eq _ _
theorem P1_19L {d ex : Nat} {s : g_S} {p0 : Nat} {p1 : Nat} {x2 : Int32} (ph0 : g_lay p0 = o_0 p0) (ph1 : g_lay p1 = o_0 p1)  {z : (g_S)} (H : f1_19L s p0 p1 x2 = some z) (hd : 13 ≤ d)  : n_R X (d + 1) 1 19 [some (.ref p0), some (.ref p1), some (.int x2)] [] (g_M s ex) (g_rSV z ex) := by
  unfold f1_19L at H
  refine g_rs (Q := fun S => n_R X (d + 1) 1 19 [some (.ref p0), some (.ref p1), some (.int S.1)] [] (g_M S.2 ex) (g_rSV z ex)) H ?_
  intro S w hb K0 KK
  refine P1_19 ph0 ph1 hb hd ?_ ?_
  · exact fun S1 e1 => K0 S1 e1
  · exact fun q e1 => by rw [KK q e1]
noncomputable def f1_2 (s : g_S) (p0 : Nat) (p1 : Nat) (x2 : Int32) : Option ((Int32 × g_S) ⊕ (g_S)) := (if x2 < (s p1 1) then (if m_in x2 13 = true then (f24 s (p0 + 6 + x2.toNatClampNeg) (p1 + 6 + x2.toNatClampNeg)).bind fun s4 => some (.inl (x2 + 1, s4)) else none) else (Option.map (fun w => (.inr (w) : ((Int32 × g_S) ⊕ (g_S)))) (f1_19L s p0 p1 0)))
theorem P1_2 {d ex : Nat} {rr : m_R} {s : g_S} {p0 : Nat} {p1 : Nat} {x2 : Int32} (ph0 : g_lay p0 = o_0 p0) (ph1 : g_lay p1 = o_0 p1)  {z : ((Int32 × g_S) ⊕ (g_S))} (H : f1_2 s p0 p1 x2 = some z) (hd : 13 ≤ d) (K0 : ∀ S : Int32 × g_S, z = .inl S → n_R X (d + 1) 1 2 [some (.ref p0), some (.ref p1), some (.int S.1)] [] (g_M S.2 ex) rr) (Kr : ∀ q, z = .inr (q) → g_rSV q ex = rr) : n_R X (d + 1) 1 2 [some (.ref p0), some (.ref p1), some (.int x2)] [] (g_M s ex) rr := by
  unfold f1_2 at H
  refine g_go 2 md_1 (i1 := 4) rfl ?_
  refine g_getf (n_q md_1 rfl) ph1 rfl ?_
  by_cases h1 : x2 < (s p1 1)
  · rw [if_pos h1] at H
    refine n_cmpF (n_q md_1 rfl) (fun e1 => absurd (of_decide_eq_true e1) (Int32.not_le.mpr h1)) ?_
    refine g_go 1 md_1 (i1 := 7) rfl ?_
    refine g_getr (p0 + 1) (n_q md_1 rfl) ph0 rfl ?_
    refine g_go 1 md_1 (i1 := 9) rfl ?_
    obtain ⟨h2, H⟩ := g_gd H
    refine g_aald (n_q md_1 rfl) (tf_0_0 ph0) (by decide) h2 (g_range (g_inlt h2)) ?_
    refine g_go 1 md_1 (i1 := 11) rfl ?_
    refine g_getr (p1 + 1) (n_q md_1 rfl) ph1 rfl ?_
    refine g_go 1 md_1 (i1 := 13) rfl ?_
    refine g_aald (n_q md_1 rfl) (tf_0_0 ph1) (by decide) h2 (g_range (g_inlt h2)) ?_
    obtain ⟨s4, hs4, H⟩ := g_bind H
    refine n_call (n_q md_1 rfl) (As := [.ref (p0 + 6 + x2.toNatClampNeg), .ref (p1 + 6 + x2.toNatClampNeg)]) (rest := []) rfl rfl (Nat.le_of_ble_eq_true rfl) rfl (g_recv (b := 0) rfl (te_6 ph0 (g_inlt h2)) rfl) (C24 (te_6 ph0 (g_inlt h2)) (te_6 ph1 (g_inlt h2)) (by omega) hs4) ?_
    refine g_go 2 md_1 (i1 := 2) (ls1 := [some (.ref p0), some (.ref p1), some (.int (x2 + 1))]) rfl ?_
    cases H
    exact K0 (x2 + 1, s4) rfl
  · rw [if_neg h1] at H
    refine n_cmpT (n_q md_1 rfl) (decide_eq_true (Int32.not_lt.mp h1)) ?_
    refine g_go 2 md_1 (i1 := 19) (ls1 := [some (.ref p0), some (.ref p1), some (.int 0)]) rfl ?_
    obtain ⟨w, hw, H⟩ := g_mapp H
    subst H
    rw [← Kr _ rfl]
    exact P1_19L ph0 ph1 hw hd
noncomputable def f1_2L (s : g_S) (p0 : Nat) (p1 : Nat) (x2 : Int32) : Option (g_S) := g_run (fun S : Int32 × g_S => f1_2 S.2 p0 p1 S.1) (x2, s)
theorem f1_2L_eq (s : g_S) (p0 : Nat) (p1 : Nat) (x2 : Int32) : f1_2L s p0 p1 x2 = g_st (f1_2 s p0 p1 x2) (fun S => f1_2L S.2 p0 p1 S.1) := by
  unfold f1_2L
  exact g_run_eq _ _
theorem P1_2L {d ex : Nat} {s : g_S} {p0 : Nat} {p1 : Nat} {x2 : Int32} (ph0 : g_lay p0 = o_0 p0) (ph1 : g_lay p1 = o_0 p1)  {z : (g_S)} (H : f1_2L s p0 p1 x2 = some z) (hd : 13 ≤ d)  : n_R X (d + 1) 1 2 [some (.ref p0), some (.ref p1), some (.int x2)] [] (g_M s ex) (g_rSV z ex) := by
  unfold f1_2L at H
  refine g_rs (Q := fun S => n_R X (d + 1) 1 2 [some (.ref p0), some (.ref p1), some (.int S.1)] [] (g_M S.2 ex) (g_rSV z ex)) H ?_
  intro S w hb K0 KK
  refine P1_2 ph0 ph1 hb hd ?_ ?_
  · exact fun S1 e1 => K0 S1 e1
  · exact fun q e1 => by rw [KK q e1]
noncomputable def f1 (s : g_S) (p0 : Nat) (p1 : Nat) : Option (g_S) := (f1_2L s p0 p1 0)
theorem C1 {d ex : Nat} {s : g_S} {p0 : Nat} {p1 : Nat} (ph0 : g_lay p0 = o_0 p0) (ph1 : g_lay p1 = o_0 p1) {z : g_S} (hd : 13 < d) (H : f1 s p0 p1 = some z) : n_C X d 1 [.ref p0, .ref p1] (g_M s ex) (g_rSV z ex) := by
  obtain ⟨d, rfl⟩ : ∃ d1, d = d1 + 1 := ⟨d - 1, by omega⟩
  replace hd := Nat.le_of_lt_succ hd
  refine ⟨Nat.le_of_ble_eq_true rfl, ?_⟩
  rw [md_1]
  show n_R X (d + 1) 1 0 [some (.ref p0), some (.ref p1), none] [] (g_M s ex) _
  unfold f1 at H
  refine g_go 2 md_1 (i1 := 2) (ls1 := [some (.ref p0), some (.ref p1), some (.int 0)]) rfl ?_
  exact P1_2L ph0 ph1 H hd

theorem md_2 : m_md 2 = m_X0_latestHolder := rfl
noncomputable def f2_10 (s : g_S) (p0 : Nat) (x1 : Int32) (x2 : Int32) : Option ((Int32 × Int32) ⊕ (Int32)) := (if x2 < (s p0 1) then (if m_in x2 13 = true then if (s p0 4) < (s (p0 + 6 + x2.toNatClampNeg) 1) then (some (.inl (x1, x2 + 1))) else (some (.inl (x2, x2 + 1))) else none) else (some (.inr (x1))))
theorem P2_10 {d ex : Nat} {rr : m_R} {s : g_S} {p0 : Nat} {x1 : Int32} {x2 : Int32} (ph0 : g_lay p0 = o_0 p0)  {z : ((Int32 × Int32) ⊕ (Int32))} (H : f2_10 s p0 x1 x2 = some z) (hd : 12 ≤ d) (K0 : ∀ S : Int32 × Int32, z = .inl S → n_R X (d + 1) 2 10 [some (.ref p0), some (.int S.1), some (.int S.2)] [] (g_M s ex) rr) (Kr : ∀ q, z = .inr (q) → g_rPI s q ex = rr) : n_R X (d + 1) 2 10 [some (.ref p0), some (.int x1), some (.int x2)] [] (g_M s ex) rr := by
  unfold f2_10 at H
  refine g_go 2 md_2 (i1 := 12) rfl ?_
  refine g_getf (n_q md_2 rfl) ph0 rfl ?_
  by_cases h1 : x2 < (s p0 1)
  · rw [if_pos h1] at H
    refine n_cmpF (n_q md_2 rfl) (fun e1 => absurd (of_decide_eq_true e1) (Int32.not_le.mpr h1)) ?_
    refine g_go 1 md_2 (i1 := 15) rfl ?_
    refine g_getr (p0 + 1) (n_q md_2 rfl) ph0 rfl ?_
    refine g_go 1 md_2 (i1 := 17) rfl ?_
    obtain ⟨h2, H⟩ := g_gd H
    refine g_aald (n_q md_2 rfl) (tf_0_0 ph0) (by decide) h2 (g_range (g_inlt h2)) ?_
    refine g_getf (n_q md_2 rfl) (te_6 ph0 (g_inlt h2)) rfl ?_
    refine g_go 1 md_2 (i1 := 20) rfl ?_
    refine g_getf (n_q md_2 rfl) ph0 rfl ?_
    by_cases h3 : (s p0 4) < (s (p0 + 6 + x2.toNatClampNeg) 1)
    · rw [if_pos h3] at H
      refine n_cmpT (n_q md_2 rfl) (decide_eq_true h3) ?_
      refine g_go 2 md_2 (i1 := 10) (ls1 := [some (.ref p0), some (.int x1), some (.int (x2 + 1))]) rfl ?_
      cases H
      exact K0 (x1, x2 + 1) rfl
    · rw [if_neg h3] at H
      refine n_cmpF (n_q md_2 rfl) (fun e1 => h3 (of_decide_eq_true e1)) ?_
      refine g_go 4 md_2 (i1 := 10) (ls1 := [some (.ref p0), some (.int x2), some (.int (x2 + 1))]) rfl ?_
      cases H
      exact K0 (x2, x2 + 1) rfl
  · rw [if_neg h1] at H
    refine n_cmpT (n_q md_2 rfl) (decide_eq_true (Int32.not_lt.mp h1)) ?_
    refine g_go 1 md_2 (i1 := 27) rfl ?_
    cases H
    rw [← Kr _ rfl]
    exact n_iret (n_q md_2 rfl) (Or.inl rfl)
noncomputable def f2_10L (s : g_S) (p0 : Nat) (x1 : Int32) (x2 : Int32) : Option (Int32) := g_run (fun S : Int32 × Int32 => f2_10 s p0 S.1 S.2) (x1, x2)
theorem f2_10L_eq (s : g_S) (p0 : Nat) (x1 : Int32) (x2 : Int32) : f2_10L s p0 x1 x2 = g_st (f2_10 s p0 x1 x2) (fun S => f2_10L s p0 S.1 S.2) := by
  unfold f2_10L
  exact g_run_eq _ _
theorem P2_10L {d ex : Nat} {s : g_S} {p0 : Nat} {x1 : Int32} {x2 : Int32} (ph0 : g_lay p0 = o_0 p0)  {z : (Int32)} (H : f2_10L s p0 x1 x2 = some z) (hd : 12 ≤ d)  : n_R X (d + 1) 2 10 [some (.ref p0), some (.int x1), some (.int x2)] [] (g_M s ex) (g_rPI s z ex) := by
  unfold f2_10L at H
  refine g_rs (Q := fun S => n_R X (d + 1) 2 10 [some (.ref p0), some (.int S.1), some (.int S.2)] [] (g_M s ex) (g_rPI s z ex)) H ?_
  intro S w hb K0 KK
  refine P2_10 ph0 hb hd ?_ ?_
  · exact fun S1 e1 => K0 S1 e1
  · exact fun q e1 => by rw [KK q e1]
noncomputable def f2 (s : g_S) (p0 : Nat) : Option (Int32) := (if (s p0 3) = ((-1)) then (some ((-1))) else (f2_10L s p0 0 1))
theorem C2 {d ex : Nat} {s : g_S} {p0 : Nat} (ph0 : g_lay p0 = o_0 p0) {z : Int32} (hd : 12 < d) (H : f2 s p0 = some z) : n_C X d 2 [.ref p0] (g_M s ex) (g_rPI s z ex) := by
  obtain ⟨d, rfl⟩ : ∃ d1, d = d1 + 1 := ⟨d - 1, by omega⟩
  replace hd := Nat.le_of_lt_succ hd
  refine ⟨Nat.le_of_ble_eq_true rfl, ?_⟩
  rw [md_2]
  show n_R X (d + 1) 2 0 [some (.ref p0), none, none] [] (g_M s ex) _
  unfold f2 at H
  refine g_go 1 md_2 (i1 := 1) rfl ?_
  refine g_getf (n_q md_2 rfl) ph0 rfl ?_
  refine g_go 1 md_2 (i1 := 3) rfl ?_
  by_cases h1 : (s p0 3) = ((-1))
  · rw [if_pos h1] at H
    refine n_cmpF (n_q md_2 rfl) (fun e1 => of_decide_eq_true e1 h1) ?_
    refine g_go 1 md_2 (i1 := 5) rfl ?_
    cases H
    exact n_iret (n_q md_2 rfl) (Or.inl rfl)
  · rw [if_neg h1] at H
    refine n_cmpT (n_q md_2 rfl) (decide_eq_true h1) ?_
    refine g_go 4 md_2 (i1 := 10) (ls1 := [some (.ref p0), some (.int 0), some (.int 1)]) rfl ?_
    exact P2_10L ph0 H hd

theorem md_3 : m_md 3 = m_X0_hasPassed := rfl
noncomputable def f3 (s : g_S) (p0 : Nat) (p1 : Int32) (p2 : Int32) : Option (Int32) := (if p1 < p2 then (if m_in p1 13 = true then if (s (p0 + 6 + p1.toNatClampNeg) 4) = 0 then (some 1) else (some 0) else none) else (some 0))
theorem C3 {d ex : Nat} {s : g_S} {p0 : Nat} {p1 : Int32} {p2 : Int32} (ph0 : g_lay p0 = o_0 p0) {z : Int32} (hd : 12 < d) (H : f3 s p0 p1 p2 = some z) : n_C X d 3 [.ref p0, .int p1, .int p2] (g_M s ex) (g_rPI s z ex) := by
  obtain ⟨d, rfl⟩ : ∃ d1, d = d1 + 1 := ⟨d - 1, by omega⟩
  replace hd := Nat.le_of_lt_succ hd
  refine ⟨Nat.le_of_ble_eq_true rfl, ?_⟩
  rw [md_3]
  show n_R X (d + 1) 3 0 [some (.ref p0), some (.int p1), some (.int p2)] [] (g_M s ex) _
  unfold f3 at H
  refine g_go 2 md_3 (i1 := 2) rfl ?_
  by_cases h1 : p1 < p2
  · rw [if_pos h1] at H
    refine n_cmpF (n_q md_3 rfl) (fun e1 => absurd (of_decide_eq_true e1) (Int32.not_le.mpr h1)) ?_
    refine g_go 1 md_3 (i1 := 4) rfl ?_
    refine g_getr (p0 + 1) (n_q md_3 rfl) ph0 rfl ?_
    refine g_go 1 md_3 (i1 := 6) rfl ?_
    obtain ⟨h2, H⟩ := g_gd H
    refine g_aald (n_q md_3 rfl) (tf_0_0 ph0) (by decide) h2 (g_range (g_inlt h2)) ?_
    refine g_getf (n_q md_3 rfl) (te_6 ph0 (g_inlt h2)) rfl ?_
    by_cases h3 : (s (p0 + 6 + p1.toNatClampNeg) 4) = 0
    · rw [if_pos h3] at H
      refine n_ifF (n_q md_3 rfl) (fun e1 => of_decide_eq_true e1 h3) ?_
      refine g_go 2 md_3 (i1 := 12) rfl ?_
      cases H
      exact n_iret (n_q md_3 rfl) (Or.inr rfl)
    · rw [if_neg h3] at H
      refine n_ifT (n_q md_3 rfl) (decide_eq_true h3) ?_
      refine g_go 1 md_3 (i1 := 12) rfl ?_
      cases H
      exact n_iret (n_q md_3 rfl) (Or.inr rfl)
  · rw [if_neg h1] at H
    refine n_cmpT (n_q md_3 rfl) (decide_eq_true (Int32.not_lt.mp h1)) ?_
    refine g_go 1 md_3 (i1 := 12) rfl ?_
    cases H
    exact n_iret (n_q md_3 rfl) (Or.inr rfl)

theorem md_26 : m_md 26 = m_X3_hasFact := rfl
noncomputable def f26 (s : g_S) (p0 : Nat) (p1 : Int32) : Option (Int32) := (if (((s p0 7) >>> (p1 &&& 31)) &&& 1) = 1 then (some 1) else (some 0))
theorem C26 {d ex : Nat} {s : g_S} {p0 : Nat} {p1 : Int32} (ph0 : g_lay p0 = o_3 p0) {z : Int32} (hd : 12 < d) (H : f26 s p0 p1 = some z) : n_C X d 26 [.ref p0, .int p1] (g_M s ex) (g_rPI s z ex) := by
  obtain ⟨d, rfl⟩ : ∃ d1, d = d1 + 1 := ⟨d - 1, by omega⟩
  replace hd := Nat.le_of_lt_succ hd
  refine ⟨Nat.le_of_ble_eq_true rfl, ?_⟩
  rw [md_26]
  show n_R X (d + 1) 26 0 [some (.ref p0), some (.int p1)] [] (g_M s ex) _
  unfold f26 at H
  refine g_go 1 md_26 (i1 := 1) rfl ?_
  refine g_getf (n_q md_26 rfl) ph0 rfl ?_
  refine g_go 5 md_26 (i1 := 7) rfl ?_
  by_cases h1 : (((s p0 7) >>> (p1 &&& 31)) &&& 1) = 1
  · rw [if_pos h1] at H
    refine n_cmpF (n_q md_26 rfl) (fun e1 => of_decide_eq_true e1 h1) ?_
    refine g_go 2 md_26 (i1 := 11) rfl ?_
    cases H
    exact n_iret (n_q md_26 rfl) (Or.inr rfl)
  · rw [if_neg h1] at H
    refine n_cmpT (n_q md_26 rfl) (decide_eq_true h1) ?_
    refine g_go 1 md_26 (i1 := 11) rfl ?_
    cases H
    exact n_iret (n_q md_26 rfl) (Or.inr rfl)

theorem md_39 : m_md 39 = m_X4_isFor := rfl
noncomputable def f39 (s : g_S) (p0 : Nat) (p1 : Int32) (p2 : Int32) (p3 : Int32) : Option (Int32) := (if m_in p1 24 = true then if (s (p0 + 1) p1.toNatClampNeg) = p2 then (if (((s (p0 + 2) p1.toNatClampNeg) >>> (p3 &&& 31)) &&& 1) = 1 then (some 1) else (some 0)) else (some 0) else none)
theorem C39 {d ex : Nat} {s : g_S} {p0 : Nat} {p1 : Int32} {p2 : Int32} {p3 : Int32} (ph0 : g_lay p0 = o_4 p0) {z : Int32} (hd : 12 < d) (H : f39 s p0 p1 p2 p3 = some z) : n_C X d 39 [.ref p0, .int p1, .int p2, .int p3] (g_M s ex) (g_rPI s z ex) := by
  obtain ⟨d, rfl⟩ : ∃ d1, d = d1 + 1 := ⟨d - 1, by omega⟩
  replace hd := Nat.le_of_lt_succ hd
  refine ⟨Nat.le_of_ble_eq_true rfl, ?_⟩
  rw [md_39]
  show n_R X (d + 1) 39 0 [some (.ref p0), some (.int p1), some (.int p2), some (.int p3)] [] (g_M s ex) _
  unfold f39 at H
  refine g_go 1 md_39 (i1 := 1) rfl ?_
  refine g_getr (p0 + 1) (n_q md_39 rfl) ph0 rfl ?_
  refine g_go 1 md_39 (i1 := 3) rfl ?_
  obtain ⟨h1, H⟩ := g_gd H
  refine g_iald (n_q md_39 rfl) (tf_4_2 ph0) h1 ?_
  refine g_go 1 md_39 (i1 := 5) rfl ?_
  by_cases h2 : (s (p0 + 1) p1.toNatClampNeg) = p2
  · rw [if_pos h2] at H
    refine n_cmpF (n_q md_39 rfl) (fun e1 => of_decide_eq_true e1 h2) ?_
    refine g_go 1 md_39 (i1 := 7) rfl ?_
    refine g_getr (p0 + 2) (n_q md_39 rfl) ph0 rfl ?_
    refine g_go 1 md_39 (i1 := 9) rfl ?_
    refine g_iald (n_q md_39 rfl) (tf_4_3 ph0) h1 ?_
    refine g_go 5 md_39 (i1 := 15) rfl ?_
    by_cases h3 : (((s (p0 + 2) p1.toNatClampNeg) >>> (p3 &&& 31)) &&& 1) = 1
    · rw [if_pos h3] at H
      refine n_cmpF (n_q md_39 rfl) (fun e1 => of_decide_eq_true e1 h3) ?_
      refine g_go 2 md_39 (i1 := 19) rfl ?_
      cases H
      exact n_iret (n_q md_39 rfl) (Or.inr rfl)
    · rw [if_neg h3] at H
      refine n_cmpT (n_q md_39 rfl) (decide_eq_true h3) ?_
      refine g_go 1 md_39 (i1 := 19) rfl ?_
      cases H
      exact n_iret (n_q md_39 rfl) (Or.inr rfl)
  · rw [if_neg h2] at H
    refine n_cmpT (n_q md_39 rfl) (decide_eq_true h2) ?_
    refine g_go 1 md_39 (i1 := 19) rfl ?_
    cases H
    exact n_iret (n_q md_39 rfl) (Or.inr rfl)

theorem md_40 : m_md 40 = m_X4_has := rfl
noncomputable def f40 (s : g_S) (p0 : Int32) (p1 : Int32) : Option (Int32) := (if ((p0 >>> (p1 &&& 31)) &&& 1) = 1 then (some 1) else (some 0))
theorem C40 {d ex : Nat} {s : g_S} {p0 : Int32} {p1 : Int32}  {z : Int32} (hd : 12 < d) (H : f40 s p0 p1 = some z) : n_C X d 40 [.int p0, .int p1] (g_M s ex) (g_rPI s z ex) := by
  obtain ⟨d, rfl⟩ : ∃ d1, d = d1 + 1 := ⟨d - 1, by omega⟩
  replace hd := Nat.le_of_lt_succ hd
  refine ⟨Nat.le_of_ble_eq_true rfl, ?_⟩
  rw [md_40]
  show n_R X (d + 1) 40 0 [some (.int p0), some (.int p1)] [] (g_M s ex) _
  unfold f40 at H
  refine g_go 6 md_40 (i1 := 6) rfl ?_
  by_cases h1 : ((p0 >>> (p1 &&& 31)) &&& 1) = 1
  · rw [if_pos h1] at H
    refine n_cmpF (n_q md_40 rfl) (fun e1 => of_decide_eq_true e1 h1) ?_
    refine g_go 2 md_40 (i1 := 10) rfl ?_
    cases H
    exact n_iret (n_q md_40 rfl) (Or.inr rfl)
  · rw [if_neg h1] at H
    refine n_cmpT (n_q md_40 rfl) (decide_eq_true h1) ?_
    refine g_go 1 md_40 (i1 := 10) rfl ?_
    cases H
    exact n_iret (n_q md_40 rfl) (Or.inr rfl)

theorem md_37 : m_md 37 = m_X4_allows := rfl
noncomputable def f37_2 (s : g_S) (p0 : Nat) (p1 : Int32) (p2 : Int32) (x3 : Int32) : Option ((Int32) ⊕ (Int32)) := (if x3 < (s p0 1) then ((f39 s p0 x3 3 p1).bind fun v2 => if v2 = 0 then (some (.inl (x3 + 1))) else (if m_in x3 24 = true then (f40 s (s (p0 + 3) x3.toNatClampNeg) p2).bind fun v5 => if v5 = 0 then (some (.inl (x3 + 1))) else (some (.inr (1))) else none)) else (some (.inr (0))))
theorem P37_2 {d ex : Nat} {rr : m_R} {s : g_S} {p0 : Nat} {p1 : Int32} {p2 : Int32} {x3 : Int32} (ph0 : g_lay p0 = o_4 p0)  {z : ((Int32) ⊕ (Int32))} (H : f37_2 s p0 p1 p2 x3 = some z) (hd : 13 ≤ d) (K0 : ∀ S : Int32, z = .inl S → n_R X (d + 1) 37 2 [some (.ref p0), some (.int p1), some (.int p2), some (.int S)] [] (g_M s ex) rr) (Kr : ∀ q, z = .inr (q) → g_rPI s q ex = rr) : n_R X (d + 1) 37 2 [some (.ref p0), some (.int p1), some (.int p2), some (.int x3)] [] (g_M s ex) rr := by
  unfold f37_2 at H
  refine g_go 2 md_37 (i1 := 4) rfl ?_
  refine g_getf (n_q md_37 rfl) ph0 rfl ?_
  by_cases h1 : x3 < (s p0 1)
  · rw [if_pos h1] at H
    refine n_cmpF (n_q md_37 rfl) (fun e1 => absurd (of_decide_eq_true e1) (Int32.not_le.mpr h1)) ?_
    refine g_go 4 md_37 (i1 := 10) rfl ?_
    obtain ⟨v2, hv2, H⟩ := g_bind H
    refine n_callv (n_q md_37 rfl) (As := [.ref p0, .int x3, .int 3, .int p1]) (rest := []) rfl rfl (Nat.le_of_ble_eq_true rfl) rfl (g_recv (b := 0) rfl ph0 rfl) (C39 ph0 (by omega) hv2) ?_
    by_cases h3 : v2 = 0
    · rw [if_pos h3] at H
      refine n_ifT (n_q md_37 rfl) (decide_eq_true h3) ?_
      refine g_go 2 md_37 (i1 := 2) (ls1 := [some (.ref p0), some (.int p1), some (.int p2), some (.int (x3 + 1))]) rfl ?_
      cases H
      exact K0 (x3 + 1) rfl
    · rw [if_neg h3] at H
      refine n_ifF (n_q md_37 rfl) (fun e1 => h3 (of_decide_eq_true e1)) ?_
      refine g_go 1 md_37 (i1 := 13) rfl ?_
      refine g_getr (p0 + 3) (n_q md_37 rfl) ph0 rfl ?_
      refine g_go 1 md_37 (i1 := 15) rfl ?_
      obtain ⟨h4, H⟩ := g_gd H
      refine g_iald (n_q md_37 rfl) (tf_4_4 ph0) h4 ?_
      refine g_go 1 md_37 (i1 := 17) rfl ?_
      obtain ⟨v5, hv5, H⟩ := g_bind H
      refine n_callv (n_q md_37 rfl) (As := [.int (s (p0 + 3) x3.toNatClampNeg), .int p2]) (rest := []) rfl rfl (Nat.le_of_ble_eq_true rfl) rfl rfl (C40 (by omega) hv5) ?_
      by_cases h6 : v5 = 0
      · rw [if_pos h6] at H
        refine n_ifT (n_q md_37 rfl) (decide_eq_true h6) ?_
        refine g_go 2 md_37 (i1 := 2) (ls1 := [some (.ref p0), some (.int p1), some (.int p2), some (.int (x3 + 1))]) rfl ?_
        cases H
        exact K0 (x3 + 1) rfl
      · rw [if_neg h6] at H
        refine n_ifF (n_q md_37 rfl) (fun e1 => h6 (of_decide_eq_true e1)) ?_
        refine g_go 1 md_37 (i1 := 20) rfl ?_
        cases H
        rw [← Kr _ rfl]
        exact n_iret (n_q md_37 rfl) (Or.inr rfl)
  · rw [if_neg h1] at H
    refine n_cmpT (n_q md_37 rfl) (decide_eq_true (Int32.not_lt.mp h1)) ?_
    refine g_go 1 md_37 (i1 := 24) rfl ?_
    cases H
    rw [← Kr _ rfl]
    exact n_iret (n_q md_37 rfl) (Or.inr rfl)
noncomputable def f37_2L (s : g_S) (p0 : Nat) (p1 : Int32) (p2 : Int32) (x3 : Int32) : Option (Int32) := g_run (fun S : Int32 => f37_2 s p0 p1 p2 S) x3
theorem f37_2L_eq (s : g_S) (p0 : Nat) (p1 : Int32) (p2 : Int32) (x3 : Int32) : f37_2L s p0 p1 p2 x3 = g_st (f37_2 s p0 p1 p2 x3) (fun S => f37_2L s p0 p1 p2 S) := by
  unfold f37_2L
  exact g_run_eq _ _
theorem P37_2L {d ex : Nat} {s : g_S} {p0 : Nat} {p1 : Int32} {p2 : Int32} {x3 : Int32} (ph0 : g_lay p0 = o_4 p0)  {z : (Int32)} (H : f37_2L s p0 p1 p2 x3 = some z) (hd : 13 ≤ d)  : n_R X (d + 1) 37 2 [some (.ref p0), some (.int p1), some (.int p2), some (.int x3)] [] (g_M s ex) (g_rPI s z ex) := by
  unfold f37_2L at H
  refine g_rs (Q := fun S => n_R X (d + 1) 37 2 [some (.ref p0), some (.int p1), some (.int p2), some (.int S)] [] (g_M s ex) (g_rPI s z ex)) H ?_
  intro S w hb K0 KK
  refine P37_2 ph0 hb hd ?_ ?_
  · exact fun S1 e1 => K0 S1 e1
  · exact fun q e1 => by rw [KK q e1]
noncomputable def f37 (s : g_S) (p0 : Nat) (p1 : Int32) (p2 : Int32) : Option (Int32) := (f37_2L s p0 p1 p2 0)
theorem C37 {d ex : Nat} {s : g_S} {p0 : Nat} {p1 : Int32} {p2 : Int32} (ph0 : g_lay p0 = o_4 p0) {z : Int32} (hd : 13 < d) (H : f37 s p0 p1 p2 = some z) : n_C X d 37 [.ref p0, .int p1, .int p2] (g_M s ex) (g_rPI s z ex) := by
  obtain ⟨d, rfl⟩ : ∃ d1, d = d1 + 1 := ⟨d - 1, by omega⟩
  replace hd := Nat.le_of_lt_succ hd
  refine ⟨Nat.le_of_ble_eq_true rfl, ?_⟩
  rw [md_37]
  show n_R X (d + 1) 37 0 [some (.ref p0), some (.int p1), some (.int p2), none] [] (g_M s ex) _
  unfold f37 at H
  refine g_go 2 md_37 (i1 := 2) (ls1 := [some (.ref p0), some (.int p1), some (.int p2), some (.int 0)]) rfl ?_
  exact P37_2L ph0 H hd

theorem md_4 : m_md 4 = m_X0_nameHand := rfl
noncomputable def f4_57 (s : g_S) (p0 : Nat) (p1 : Int32) (p2 : Int32) (p3 : Nat) (p4 : Nat) (x5 : Nat) (y2 : Int32) : Option (g_S) := (g_let (g_w s p4 5 y2) fun s1 => g_let (g_w s1 p4 6 (s1 p0 2)) fun s2 => g_let (g_w s2 p4 7 ((s2 p0 4) - (s2 x5 1))) fun s3 => some s3)
theorem P4_57 {d ex : Nat} {s : g_S} {p0 : Nat} {p1 : Int32} {p2 : Int32} {p3 : Nat} {p4 : Nat} {x5 : Nat} {y2 : Int32} {u6 : Option Value} (ph0 : g_lay p0 = o_0 p0) (ph3 : g_lay p3 = o_4 p3) (ph4 : g_lay p4 = (1, (8, []))) (hx5 : g_lay x5 = o_3 x5) {z : (g_S)} (H : f4_57 s p0 p1 p2 p3 p4 x5 y2 = some z) (hd : 14 ≤ d)  : n_R X (d + 1) 4 57 [some (.ref p0), some (.int p1), some (.int p2), some (.ref p3), some (.ref p4), some (.ref x5), u6] [.int y2, .int 5, .ref p4] (g_M s ex) (g_rSV z ex) := by
  unfold f4_57 at H
  obtain ⟨s1, es1, H⟩ := g_letp H
  refine g_iast (n_q md_4 rfl) ph4 (rfl : m_in 5 8 = true) es1 ?_
  refine g_go 3 md_4 (i1 := 61) rfl ?_
  refine g_getf (n_q md_4 rfl) ph0 rfl ?_
  obtain ⟨s2, es2, H⟩ := g_letp H
  refine g_iast (n_q md_4 rfl) ph4 (rfl : m_in 6 8 = true) es2 ?_
  refine g_go 3 md_4 (i1 := 66) rfl ?_
  refine g_getf (n_q md_4 rfl) ph0 rfl ?_
  refine g_go 1 md_4 (i1 := 68) rfl ?_
  refine g_getf (n_q md_4 rfl) hx5 rfl ?_
  refine g_go 1 md_4 (i1 := 70) rfl ?_
  obtain ⟨s3, es3, H⟩ := g_letp H
  refine g_iast (n_q md_4 rfl) ph4 (rfl : m_in 7 8 = true) es3 ?_
  cases H
  exact n_end (n_q md_4 rfl) (fun _ => rfl)
noncomputable def f4_43 (s : g_S) (p0 : Nat) (p1 : Int32) (p2 : Int32) (p3 : Nat) (p4 : Nat) (x5 : Nat) (y2 : Int32) : Option (g_S) := (g_let (g_w s p4 4 y2) fun s1 => (f37 s1 p3 (s1 x5 0) (s1 x5 3)).bind fun v2 => if v2 = 0 then (f4_57 s1 p0 p1 p2 p3 p4 x5 0) else (f4_57 s1 p0 p1 p2 p3 p4 x5 (s1 x5 3)))
theorem P4_43 {d ex : Nat} {s : g_S} {p0 : Nat} {p1 : Int32} {p2 : Int32} {p3 : Nat} {p4 : Nat} {x5 : Nat} {y2 : Int32} {u6 : Option Value} (ph0 : g_lay p0 = o_0 p0) (ph3 : g_lay p3 = o_4 p3) (ph4 : g_lay p4 = (1, (8, []))) (hx5 : g_lay x5 = o_3 x5) {z : (g_S)} (H : f4_43 s p0 p1 p2 p3 p4 x5 y2 = some z) (hd : 14 ≤ d)  : n_R X (d + 1) 4 43 [some (.ref p0), some (.int p1), some (.int p2), some (.ref p3), some (.ref p4), some (.ref x5), u6] [.int y2, .int 4, .ref p4] (g_M s ex) (g_rSV z ex) := by
  unfold f4_43 at H
  obtain ⟨s1, es1, H⟩ := g_letp H
  refine g_iast (n_q md_4 rfl) ph4 (rfl : m_in 4 8 = true) es1 ?_
  refine g_go 4 md_4 (i1 := 48) rfl ?_
  refine g_getf (n_q md_4 rfl) hx5 rfl ?_
  refine g_go 1 md_4 (i1 := 50) rfl ?_
  refine g_getf (n_q md_4 rfl) hx5 rfl ?_
  obtain ⟨v2, hv2, H⟩ := g_bind H
  refine n_callv (n_q md_4 rfl) (As := [.ref p3, .int (s1 x5 0), .int (s1 x5 3)]) (rest := [.int 5, .ref p4]) rfl rfl (Nat.le_of_ble_eq_true rfl) rfl (g_recv (b := 0) rfl ph3 rfl) (C37 ph3 (by omega) hv2) ?_
  by_cases h3 : v2 = 0
  · rw [if_pos h3] at H
    refine n_ifT (n_q md_4 rfl) (decide_eq_true h3) ?_
    refine g_go 1 md_4 (i1 := 57) rfl ?_
    exact P4_57 ph0 ph3 ph4 hx5 H hd
  · rw [if_neg h3] at H
    refine n_ifF (n_q md_4 rfl) (fun e1 => h3 (of_decide_eq_true e1)) ?_
    refine g_go 1 md_4 (i1 := 54) rfl ?_
    refine g_getf (n_q md_4 rfl) hx5 rfl ?_
    refine g_go 1 md_4 (i1 := 57) rfl ?_
    exact P4_57 ph0 ph3 ph4 hx5 H hd
noncomputable def f4_32 (s : g_S) (p0 : Nat) (p1 : Int32) (p2 : Int32) (p3 : Nat) (p4 : Nat) (x5 : Nat) (y2 : Int32) : Option (g_S) := (g_let (g_w s p4 3 y2) fun s1 => (f3 s1 p0 p1 p2).bind fun v2 => if v2 = 0 then (f4_43 s1 p0 p1 p2 p3 p4 x5 0) else (f4_43 s1 p0 p1 p2 p3 p4 x5 1))
theorem P4_32 {d ex : Nat} {s : g_S} {p0 : Nat} {p1 : Int32} {p2 : Int32} {p3 : Nat} {p4 : Nat} {x5 : Nat} {y2 : Int32} {u6 : Option Value} (ph0 : g_lay p0 = o_0 p0) (ph3 : g_lay p3 = o_4 p3) (ph4 : g_lay p4 = (1, (8, []))) (hx5 : g_lay x5 = o_3 x5) {z : (g_S)} (H : f4_32 s p0 p1 p2 p3 p4 x5 y2 = some z) (hd : 14 ≤ d)  : n_R X (d + 1) 4 32 [some (.ref p0), some (.int p1), some (.int p2), some (.ref p3), some (.ref p4), some (.ref x5), u6] [.int y2, .int 3, .ref p4] (g_M s ex) (g_rSV z ex) := by
  unfold f4_32 at H
  obtain ⟨s1, es1, H⟩ := g_letp H
  refine g_iast (n_q md_4 rfl) ph4 (rfl : m_in 3 8 = true) es1 ?_
  refine g_go 5 md_4 (i1 := 38) rfl ?_
  obtain ⟨v2, hv2, H⟩ := g_bind H
  refine n_callv (n_q md_4 rfl) (As := [.ref p0, .int p1, .int p2]) (rest := [.int 4, .ref p4]) rfl rfl (Nat.le_of_ble_eq_true rfl) rfl (g_recv (b := 0) rfl ph0 rfl) (C3 ph0 (by omega) hv2) ?_
  by_cases h3 : v2 = 0
  · rw [if_pos h3] at H
    refine n_ifT (n_q md_4 rfl) (decide_eq_true h3) ?_
    refine g_go 1 md_4 (i1 := 43) rfl ?_
    exact P4_43 ph0 ph3 ph4 hx5 H hd
  · rw [if_neg h3] at H
    refine n_ifF (n_q md_4 rfl) (fun e1 => h3 (of_decide_eq_true e1)) ?_
    refine g_go 2 md_4 (i1 := 43) rfl ?_
    exact P4_43 ph0 ph3 ph4 hx5 H hd
noncomputable def f4_22 (s : g_S) (p0 : Nat) (p1 : Int32) (p2 : Int32) (p3 : Nat) (p4 : Nat) (x5 : Nat) : Option (g_S) := (if (s x5 2) < (s p0 4) then (f4_32 s p0 p1 p2 p3 p4 x5 1) else (f4_32 s p0 p1 p2 p3 p4 x5 0))
theorem P4_22 {d ex : Nat} {s : g_S} {p0 : Nat} {p1 : Int32} {p2 : Int32} {p3 : Nat} {p4 : Nat} {x5 : Nat} {u6 : Option Value} (ph0 : g_lay p0 = o_0 p0) (ph3 : g_lay p3 = o_4 p3) (ph4 : g_lay p4 = (1, (8, []))) (hx5 : g_lay x5 = o_3 x5) {z : (g_S)} (H : f4_22 s p0 p1 p2 p3 p4 x5 = some z) (hd : 14 ≤ d)  : n_R X (d + 1) 4 22 [some (.ref p0), some (.int p1), some (.int p2), some (.ref p3), some (.ref p4), some (.ref x5), u6] [] (g_M s ex) (g_rSV z ex) := by
  unfold f4_22 at H
  refine g_go 3 md_4 (i1 := 25) rfl ?_
  refine g_getf (n_q md_4 rfl) ph0 rfl ?_
  refine g_go 1 md_4 (i1 := 27) rfl ?_
  refine g_getf (n_q md_4 rfl) hx5 rfl ?_
  by_cases h1 : (s x5 2) < (s p0 4)
  · rw [if_pos h1] at H
    refine n_cmpF (n_q md_4 rfl) (fun e1 => absurd (of_decide_eq_true e1) (Int32.not_le.mpr h1)) ?_
    refine g_go 2 md_4 (i1 := 32) rfl ?_
    exact P4_32 ph0 ph3 ph4 hx5 H hd
  · rw [if_neg h1] at H
    refine n_cmpT (n_q md_4 rfl) (decide_eq_true (Int32.not_lt.mp h1)) ?_
    refine g_go 1 md_4 (i1 := 32) rfl ?_
    exact P4_32 ph0 ph3 ph4 hx5 H hd
noncomputable def f4_19 (s : g_S) (p0 : Nat) (p1 : Int32) (p2 : Int32) (p3 : Nat) (p4 : Nat) (x5 : Nat) (x6 : Int32) (y1 : Int32) (y2 : Int32) : Option ((Int32 × g_S) ⊕ (g_S)) := (if m_in y1 8 = true then g_let (g_w s p4 y1.toNatClampNeg y2) fun s2 => some (.inl (x6 + 1, s2)) else none)
theorem P4_19 {d ex : Nat} {rr : m_R} {s : g_S} {p0 : Nat} {p1 : Int32} {p2 : Int32} {p3 : Nat} {p4 : Nat} {x5 : Nat} {x6 : Int32} {y1 : Int32} {y2 : Int32} (ph0 : g_lay p0 = o_0 p0) (ph3 : g_lay p3 = o_4 p3) (ph4 : g_lay p4 = (1, (8, []))) (hx5 : g_lay x5 = o_3 x5) {z : ((Int32 × g_S) ⊕ (g_S))} (H : f4_19 s p0 p1 p2 p3 p4 x5 x6 y1 y2 = some z) (hd : 14 ≤ d) (K0 : ∀ S : Int32 × g_S, z = .inl S → n_R X (d + 1) 4 7 [some (.ref p0), some (.int p1), some (.int p2), some (.ref p3), some (.ref p4), some (.ref x5), some (.int S.1)] [] (g_M S.2 ex) rr) (Kr : ∀ q, z = .inr (q) → g_rSV q ex = rr) : n_R X (d + 1) 4 19 [some (.ref p0), some (.int p1), some (.int p2), some (.ref p3), some (.ref p4), some (.ref x5), some (.int x6)] [.int y2, .int y1, .ref p4] (g_M s ex) rr := by
  unfold f4_19 at H
  obtain ⟨h1, H⟩ := g_gd H
  obtain ⟨s2, es2, H⟩ := g_letp H
  refine g_iast (n_q md_4 rfl) ph4 h1 es2 ?_
  refine g_go 2 md_4 (i1 := 7) (ls1 := [some (.ref p0), some (.int p1), some (.int p2), some (.ref p3), some (.ref p4), some (.ref x5), some (.int (x6 + 1))]) rfl ?_
  cases H
  exact K0 (x6 + 1, s2) rfl
noncomputable def f4_7 (s : g_S) (p0 : Nat) (p1 : Int32) (p2 : Int32) (p3 : Nat) (p4 : Nat) (x5 : Nat) (x6 : Int32) : Option ((Int32 × g_S) ⊕ (g_S)) := (if x6 < 3 then ((f26 s x5 x6).bind fun v2 => if v2 = 0 then (f4_19 s p0 p1 p2 p3 p4 x5 x6 x6 0) else (f4_19 s p0 p1 p2 p3 p4 x5 x6 x6 1)) else (Option.map (fun w => (.inr (w) : ((Int32 × g_S) ⊕ (g_S)))) (f4_22 s p0 p1 p2 p3 p4 x5)))
theorem P4_7 {d ex : Nat} {rr : m_R} {s : g_S} {p0 : Nat} {p1 : Int32} {p2 : Int32} {p3 : Nat} {p4 : Nat} {x5 : Nat} {x6 : Int32} (ph0 : g_lay p0 = o_0 p0) (ph3 : g_lay p3 = o_4 p3) (ph4 : g_lay p4 = (1, (8, []))) (hx5 : g_lay x5 = o_3 x5) {z : ((Int32 × g_S) ⊕ (g_S))} (H : f4_7 s p0 p1 p2 p3 p4 x5 x6 = some z) (hd : 14 ≤ d) (K0 : ∀ S : Int32 × g_S, z = .inl S → n_R X (d + 1) 4 7 [some (.ref p0), some (.int p1), some (.int p2), some (.ref p3), some (.ref p4), some (.ref x5), some (.int S.1)] [] (g_M S.2 ex) rr) (Kr : ∀ q, z = .inr (q) → g_rSV q ex = rr) : n_R X (d + 1) 4 7 [some (.ref p0), some (.int p1), some (.int p2), some (.ref p3), some (.ref p4), some (.ref x5), some (.int x6)] [] (g_M s ex) rr := by
  unfold f4_7 at H
  refine g_go 2 md_4 (i1 := 9) rfl ?_
  by_cases h1 : x6 < 3
  · rw [if_pos h1] at H
    refine n_cmpF (n_q md_4 rfl) (fun e1 => absurd (of_decide_eq_true e1) (Int32.not_le.mpr h1)) ?_
    refine g_go 4 md_4 (i1 := 14) rfl ?_
    obtain ⟨v2, hv2, H⟩ := g_bind H
    refine n_callv (n_q md_4 rfl) (As := [.ref x5, .int x6]) (rest := [.int x6, .ref p4]) rfl rfl (Nat.le_of_ble_eq_true rfl) rfl (g_recv (b := 0) rfl hx5 rfl) (C26 hx5 (by omega) hv2) ?_
    by_cases h3 : v2 = 0
    · rw [if_pos h3] at H
      refine n_ifT (n_q md_4 rfl) (decide_eq_true h3) ?_
      refine g_go 1 md_4 (i1 := 19) rfl ?_
      exact P4_19 ph0 ph3 ph4 hx5 H hd K0 Kr
    · rw [if_neg h3] at H
      refine n_ifF (n_q md_4 rfl) (fun e1 => h3 (of_decide_eq_true e1)) ?_
      refine g_go 2 md_4 (i1 := 19) rfl ?_
      exact P4_19 ph0 ph3 ph4 hx5 H hd K0 Kr
  · rw [if_neg h1] at H
    refine n_cmpT (n_q md_4 rfl) (decide_eq_true (Int32.not_lt.mp h1)) ?_
    obtain ⟨w, hw, H⟩ := g_mapp H
    subst H
    rw [← Kr _ rfl]
    exact P4_22 ph0 ph3 ph4 hx5 hw hd
noncomputable def f4_7L (s : g_S) (p0 : Nat) (p1 : Int32) (p2 : Int32) (p3 : Nat) (p4 : Nat) (x5 : Nat) (x6 : Int32) : Option (g_S) := g_run (fun S : Int32 × g_S => f4_7 S.2 p0 p1 p2 p3 p4 x5 S.1) (x6, s)
theorem f4_7L_eq (s : g_S) (p0 : Nat) (p1 : Int32) (p2 : Int32) (p3 : Nat) (p4 : Nat) (x5 : Nat) (x6 : Int32) : f4_7L s p0 p1 p2 p3 p4 x5 x6 = g_st (f4_7 s p0 p1 p2 p3 p4 x5 x6) (fun S => f4_7L S.2 p0 p1 p2 p3 p4 x5 S.1) := by
  unfold f4_7L
  exact g_run_eq _ _
theorem P4_7L {d ex : Nat} {s : g_S} {p0 : Nat} {p1 : Int32} {p2 : Int32} {p3 : Nat} {p4 : Nat} {x5 : Nat} {x6 : Int32} (ph0 : g_lay p0 = o_0 p0) (ph3 : g_lay p3 = o_4 p3) (ph4 : g_lay p4 = (1, (8, []))) (hx5 : g_lay x5 = o_3 x5) {z : (g_S)} (H : f4_7L s p0 p1 p2 p3 p4 x5 x6 = some z) (hd : 14 ≤ d)  : n_R X (d + 1) 4 7 [some (.ref p0), some (.int p1), some (.int p2), some (.ref p3), some (.ref p4), some (.ref x5), some (.int x6)] [] (g_M s ex) (g_rSV z ex) := by
  unfold f4_7L at H
  refine g_rs (Q := fun S => n_R X (d + 1) 4 7 [some (.ref p0), some (.int p1), some (.int p2), some (.ref p3), some (.ref p4), some (.ref x5), some (.int S.1)] [] (g_M S.2 ex) (g_rSV z ex)) H ?_
  intro S w hb K0 KK
  refine P4_7 ph0 ph3 ph4 hx5 hb hd ?_ ?_
  · exact fun S1 e1 => K0 S1 e1
  · exact fun q e1 => by rw [KK q e1]
noncomputable def f4 (s : g_S) (p0 : Nat) (p1 : Int32) (p2 : Int32) (p3 : Nat) (p4 : Nat) : Option (g_S) := (if m_in p1 13 = true then f4_7L s p0 p1 p2 p3 p4 (p0 + 6 + p1.toNatClampNeg) 0 else none)
theorem C4 {d ex : Nat} {s : g_S} {p0 : Nat} {p1 : Int32} {p2 : Int32} {p3 : Nat} {p4 : Nat} (ph0 : g_lay p0 = o_0 p0) (ph3 : g_lay p3 = o_4 p3) (ph4 : g_lay p4 = (1, (8, []))) {z : g_S} (hd : 14 < d) (H : f4 s p0 p1 p2 p3 p4 = some z) : n_C X d 4 [.ref p0, .int p1, .int p2, .ref p3, .ref p4] (g_M s ex) (g_rSV z ex) := by
  obtain ⟨d, rfl⟩ : ∃ d1, d = d1 + 1 := ⟨d - 1, by omega⟩
  replace hd := Nat.le_of_lt_succ hd
  refine ⟨Nat.le_of_ble_eq_true rfl, ?_⟩
  rw [md_4]
  show n_R X (d + 1) 4 0 [some (.ref p0), some (.int p1), some (.int p2), some (.ref p3), some (.ref p4), none, none] [] (g_M s ex) _
  unfold f4 at H
  refine g_go 1 md_4 (i1 := 1) rfl ?_
  refine g_getr (p0 + 1) (n_q md_4 rfl) ph0 rfl ?_
  refine g_go 1 md_4 (i1 := 3) rfl ?_
  obtain ⟨h1, H⟩ := g_gd H
  refine g_aald (n_q md_4 rfl) (tf_0_0 ph0) (by decide) h1 (g_range (g_inlt h1)) ?_
  refine g_go 3 md_4 (i1 := 7) (ls1 := [some (.ref p0), some (.int p1), some (.int p2), some (.ref p3), some (.ref p4), some (.ref (p0 + 6 + p1.toNatClampNeg)), some (.int 0)]) rfl ?_
  exact P4_7L ph0 ph3 ph4 (te_6 ph0 (g_inlt h1)) H hd

theorem md_5 : m_md 5 = m_X0_ask := rfl
noncomputable def f5 (s : g_S) (p0 : Nat) (p1 : Int32) (p2 : Int32) (p3 : Int32) : Option (Int32 × g_S) := (if (s p0 7) < 8 then (if m_in (s p0 7) 8 = true then g_let (g_w s (p0 + 19 + (s p0 7).toNatClampNeg) 0 p1) fun s3 => g_let (g_w s3 (p0 + 19 + (s p0 7).toNatClampNeg) 1 p2) fun s4 => g_let (g_w s4 (p0 + 19 + (s p0 7).toNatClampNeg) 2 p3) fun s5 => g_let (g_w s5 p0 7 ((s5 p0 7) + 1)) fun s6 => some (((s6 p0 7) - 1, s6)) else none) else (some (((-1), s))))
theorem C5 {d ex : Nat} {s : g_S} {p0 : Nat} {p1 : Int32} {p2 : Int32} {p3 : Int32} (ph0 : g_lay p0 = o_0 p0) {z : Int32 × g_S} (hd : 12 < d) (H : f5 s p0 p1 p2 p3 = some z) : n_C X d 5 [.ref p0, .int p1, .int p2, .int p3] (g_M s ex) (g_rSI z ex) := by
  obtain ⟨d, rfl⟩ : ∃ d1, d = d1 + 1 := ⟨d - 1, by omega⟩
  replace hd := Nat.le_of_lt_succ hd
  refine ⟨Nat.le_of_ble_eq_true rfl, ?_⟩
  rw [md_5]
  show n_R X (d + 1) 5 0 [some (.ref p0), some (.int p1), some (.int p2), some (.int p3), none] [] (g_M s ex) _
  unfold f5 at H
  refine g_go 1 md_5 (i1 := 1) rfl ?_
  refine g_getf (n_q md_5 rfl) ph0 rfl ?_
  refine g_go 1 md_5 (i1 := 3) rfl ?_
  by_cases h1 : (s p0 7) < 8
  · rw [if_pos h1] at H
    refine n_cmpT (n_q md_5 rfl) (decide_eq_true h1) ?_
    refine g_go 1 md_5 (i1 := 7) rfl ?_
    refine g_getr (p0 + 2) (n_q md_5 rfl) ph0 rfl ?_
    refine g_go 1 md_5 (i1 := 9) rfl ?_
    refine g_getf (n_q md_5 rfl) ph0 rfl ?_
    obtain ⟨h2, H⟩ := g_gd H
    refine g_aald (n_q md_5 rfl) (tf_0_6 ph0) (by decide) h2 (g_range (g_inlt h2)) ?_
    refine g_go 3 md_5 (i1 := 14) (ls1 := [some (.ref p0), some (.int p1), some (.int p2), some (.int p3), some (.ref (p0 + 19 + (s p0 7).toNatClampNeg))]) rfl ?_
    obtain ⟨s3, es3, H⟩ := g_letp H
    refine g_putf (n_q md_5 rfl) (te_7 ph0 (g_inlt h2)) rfl rfl es3 ?_
    refine g_go 2 md_5 (i1 := 17) rfl ?_
    obtain ⟨s4, es4, H⟩ := g_letp H
    refine g_putf (n_q md_5 rfl) (te_7 ph0 (g_inlt h2)) rfl rfl es4 ?_
    refine g_go 2 md_5 (i1 := 20) rfl ?_
    obtain ⟨s5, es5, H⟩ := g_letp H
    refine g_putf (n_q md_5 rfl) (te_7 ph0 (g_inlt h2)) rfl rfl es5 ?_
    refine g_go 2 md_5 (i1 := 23) rfl ?_
    refine g_getf (n_q md_5 rfl) ph0 rfl ?_
    refine g_go 2 md_5 (i1 := 26) rfl ?_
    obtain ⟨s6, es6, H⟩ := g_letp H
    refine g_putf (n_q md_5 rfl) ph0 rfl rfl es6 ?_
    refine g_go 1 md_5 (i1 := 28) rfl ?_
    refine g_getf (n_q md_5 rfl) ph0 rfl ?_
    refine g_go 2 md_5 (i1 := 31) rfl ?_
    cases H
    exact n_iret (n_q md_5 rfl) (Or.inl rfl)
  · rw [if_neg h1] at H
    refine n_cmpF (n_q md_5 rfl) (fun e1 => h1 (of_decide_eq_true e1)) ?_
    refine g_go 1 md_5 (i1 := 5) rfl ?_
    cases H
    exact n_iret (n_q md_5 rfl) (Or.inl rfl)

theorem md_6 : m_md 6 = m_X0_dropQuestion := rfl
noncomputable def f6_8 (s : g_S) (p0 : Nat) (p1 : Int32) (x2 : Int32) : Option ((Int32 × g_S) ⊕ (g_S)) := (if x2 < (s p0 7) then (if m_in x2 8 = true then if m_in (x2 + 1) 8 = true then (f76 s (p0 + 19 + x2.toNatClampNeg) (p0 + 19 + (x2 + 1).toNatClampNeg)).bind fun s5 => some (.inl (x2 + 1, s5)) else none else none) else (some (.inr (s))))
theorem P6_8 {d ex : Nat} {rr : m_R} {s : g_S} {p0 : Nat} {p1 : Int32} {x2 : Int32} (ph0 : g_lay p0 = o_0 p0)  {z : ((Int32 × g_S) ⊕ (g_S))} (H : f6_8 s p0 p1 x2 = some z) (hd : 13 ≤ d) (K0 : ∀ S : Int32 × g_S, z = .inl S → n_R X (d + 1) 6 8 [some (.ref p0), some (.int p1), some (.int S.1)] [] (g_M S.2 ex) rr) (Kr : ∀ q, z = .inr (q) → g_rSV q ex = rr) : n_R X (d + 1) 6 8 [some (.ref p0), some (.int p1), some (.int x2)] [] (g_M s ex) rr := by
  unfold f6_8 at H
  refine g_go 2 md_6 (i1 := 10) rfl ?_
  refine g_getf (n_q md_6 rfl) ph0 rfl ?_
  by_cases h1 : x2 < (s p0 7)
  · rw [if_pos h1] at H
    refine n_cmpF (n_q md_6 rfl) (fun e1 => absurd (of_decide_eq_true e1) (Int32.not_le.mpr h1)) ?_
    refine g_go 1 md_6 (i1 := 13) rfl ?_
    refine g_getr (p0 + 2) (n_q md_6 rfl) ph0 rfl ?_
    refine g_go 1 md_6 (i1 := 15) rfl ?_
    obtain ⟨h2, H⟩ := g_gd H
    refine g_aald (n_q md_6 rfl) (tf_0_6 ph0) (by decide) h2 (g_range (g_inlt h2)) ?_
    refine g_go 1 md_6 (i1 := 17) rfl ?_
    refine g_getr (p0 + 2) (n_q md_6 rfl) ph0 rfl ?_
    refine g_go 3 md_6 (i1 := 21) rfl ?_
    obtain ⟨h3, H⟩ := g_gd H
    refine g_aald (n_q md_6 rfl) (tf_0_6 ph0) (by decide) h3 (g_range (g_inlt h3)) ?_
    obtain ⟨s5, hs5, H⟩ := g_bind H
    refine n_call (n_q md_6 rfl) (As := [.ref (p0 + 19 + x2.toNatClampNeg), .ref (p0 + 19 + (x2 + 1).toNatClampNeg)]) (rest := []) rfl rfl (Nat.le_of_ble_eq_true rfl) rfl (g_recv (b := 0) rfl (te_7 ph0 (g_inlt h2)) rfl) (C76 (te_7 ph0 (g_inlt h2)) (te_7 ph0 (g_inlt h3)) (by omega) hs5) ?_
    refine g_go 2 md_6 (i1 := 8) (ls1 := [some (.ref p0), some (.int p1), some (.int (x2 + 1))]) rfl ?_
    cases H
    exact K0 (x2 + 1, s5) rfl
  · rw [if_neg h1] at H
    refine n_cmpT (n_q md_6 rfl) (decide_eq_true (Int32.not_lt.mp h1)) ?_
    cases H
    rw [← Kr _ rfl]
    exact n_end (n_q md_6 rfl) (fun _ => rfl)
noncomputable def f6_8L (s : g_S) (p0 : Nat) (p1 : Int32) (x2 : Int32) : Option (g_S) := g_run (fun S : Int32 × g_S => f6_8 S.2 p0 p1 S.1) (x2, s)
theorem f6_8L_eq (s : g_S) (p0 : Nat) (p1 : Int32) (x2 : Int32) : f6_8L s p0 p1 x2 = g_st (f6_8 s p0 p1 x2) (fun S => f6_8L S.2 p0 p1 S.1) := by
  unfold f6_8L
  exact g_run_eq _ _
theorem P6_8L {d ex : Nat} {s : g_S} {p0 : Nat} {p1 : Int32} {x2 : Int32} (ph0 : g_lay p0 = o_0 p0)  {z : (g_S)} (H : f6_8L s p0 p1 x2 = some z) (hd : 13 ≤ d)  : n_R X (d + 1) 6 8 [some (.ref p0), some (.int p1), some (.int x2)] [] (g_M s ex) (g_rSV z ex) := by
  unfold f6_8L at H
  refine g_rs (Q := fun S => n_R X (d + 1) 6 8 [some (.ref p0), some (.int p1), some (.int S.1)] [] (g_M S.2 ex) (g_rSV z ex)) H ?_
  intro S w hb K0 KK
  refine P6_8 ph0 hb hd ?_ ?_
  · exact fun S1 e1 => K0 S1 e1
  · exact fun q e1 => by rw [KK q e1]
noncomputable def f6 (s : g_S) (p0 : Nat) (p1 : Int32) : Option (g_S) := (g_let (g_w s p0 7 ((s p0 7) - 1)) fun s1 => f6_8L s1 p0 p1 p1)
theorem C6 {d ex : Nat} {s : g_S} {p0 : Nat} {p1 : Int32} (ph0 : g_lay p0 = o_0 p0) {z : g_S} (hd : 13 < d) (H : f6 s p0 p1 = some z) : n_C X d 6 [.ref p0, .int p1] (g_M s ex) (g_rSV z ex) := by
  obtain ⟨d, rfl⟩ : ∃ d1, d = d1 + 1 := ⟨d - 1, by omega⟩
  replace hd := Nat.le_of_lt_succ hd
  refine ⟨Nat.le_of_ble_eq_true rfl, ?_⟩
  rw [md_6]
  show n_R X (d + 1) 6 0 [some (.ref p0), some (.int p1), none] [] (g_M s ex) _
  unfold f6 at H
  refine g_go 2 md_6 (i1 := 2) rfl ?_
  refine g_getf (n_q md_6 rfl) ph0 rfl ?_
  refine g_go 2 md_6 (i1 := 5) rfl ?_
  obtain ⟨s1, es1, H⟩ := g_letp H
  refine g_putf (n_q md_6 rfl) ph0 rfl rfl es1 ?_
  refine g_go 2 md_6 (i1 := 8) (ls1 := [some (.ref p0), some (.int p1), some (.int p1)]) rfl ?_
  exact P6_8L ph0 H hd

theorem md_27 : m_md 27 = m_X3_tellFact := rfl
noncomputable def f27_18 (s : g_S) (p0 : Nat) (p1 : Int32) (p2 : Int32) (y1 : Int32) : Option (g_S) := (g_let (g_w s p0 7 y1) fun s1 => some s1)
theorem P27_18 {d ex : Nat} {s : g_S} {p0 : Nat} {p1 : Int32} {p2 : Int32} {y1 : Int32} {u3 : Option Value} (ph0 : g_lay p0 = o_3 p0)  {z : (g_S)} (H : f27_18 s p0 p1 p2 y1 = some z) (hd : 12 ≤ d)  : n_R X (d + 1) 27 18 [some (.ref p0), some (.int p1), some (.int p2), u3] [.int y1, .ref p0] (g_M s ex) (g_rSV z ex) := by
  unfold f27_18 at H
  obtain ⟨s1, es1, H⟩ := g_letp H
  refine g_putf (n_q md_27 rfl) ph0 rfl rfl es1 ?_
  cases H
  exact n_end (n_q md_27 rfl) (fun _ => rfl)
noncomputable def f27 (s : g_S) (p0 : Nat) (p1 : Int32) (p2 : Int32) : Option (g_S) := (if p2 = 0 then (f27_18 s p0 p1 p2 ((s p0 7) &&& (((1 : Int32) <<< (p1 &&& 31)) ^^^ ((-1))))) else (f27_18 s p0 p1 p2 ((s p0 7) ||| ((1 : Int32) <<< (p1 &&& 31)))))
theorem C27 {d ex : Nat} {s : g_S} {p0 : Nat} {p1 : Int32} {p2 : Int32} (ph0 : g_lay p0 = o_3 p0) {z : g_S} (hd : 12 < d) (H : f27 s p0 p1 p2 = some z) : n_C X d 27 [.ref p0, .int p1, .int p2] (g_M s ex) (g_rSV z ex) := by
  obtain ⟨d, rfl⟩ : ∃ d1, d = d1 + 1 := ⟨d - 1, by omega⟩
  replace hd := Nat.le_of_lt_succ hd
  refine ⟨Nat.le_of_ble_eq_true rfl, ?_⟩
  rw [md_27]
  show n_R X (d + 1) 27 0 [some (.ref p0), some (.int p1), some (.int p2), none] [] (g_M s ex) _
  unfold f27 at H
  refine g_go 6 md_27 (i1 := 6) (ls1 := [some (.ref p0), some (.int p1), some (.int p2), some (.int ((1 : Int32) <<< (p1 &&& 31)))]) rfl ?_
  by_cases h1 : p2 = 0
  · rw [if_pos h1] at H
    refine n_ifT (n_q md_27 rfl) (decide_eq_true h1) ?_
    refine g_go 1 md_27 (i1 := 13) rfl ?_
    refine g_getf (n_q md_27 rfl) ph0 rfl ?_
    refine g_go 4 md_27 (i1 := 18) rfl ?_
    exact P27_18 ph0 H hd
  · rw [if_neg h1] at H
    refine n_ifF (n_q md_27 rfl) (fun e1 => h1 (of_decide_eq_true e1)) ?_
    refine g_go 1 md_27 (i1 := 8) rfl ?_
    refine g_getf (n_q md_27 rfl) ph0 rfl ?_
    refine g_go 3 md_27 (i1 := 18) rfl ?_
    exact P27_18 ph0 H hd

theorem md_118 : m_md 118 = m_X7_isWithin := rfl
noncomputable def f118 (s : g_S) (p0 : Int32) (p1 : Int32) : Option (Int32) := (if p0 < 0 then (some 0) else (if p1 < p0 then (some 0) else (some 1)))
theorem C118 {d ex : Nat} {s : g_S} {p0 : Int32} {p1 : Int32}  {z : Int32} (hd : 12 < d) (H : f118 s p0 p1 = some z) : n_C X d 118 [.int p0, .int p1] (g_M s ex) (g_rPI s z ex) := by
  obtain ⟨d, rfl⟩ : ∃ d1, d = d1 + 1 := ⟨d - 1, by omega⟩
  replace hd := Nat.le_of_lt_succ hd
  refine ⟨Nat.le_of_ble_eq_true rfl, ?_⟩
  rw [md_118]
  show n_R X (d + 1) 118 0 [some (.int p0), some (.int p1)] [] (g_M s ex) _
  unfold f118 at H
  refine g_go 1 md_118 (i1 := 1) rfl ?_
  by_cases h1 : p0 < 0
  · rw [if_pos h1] at H
    refine n_ifT (n_q md_118 rfl) (decide_eq_true h1) ?_
    refine g_go 1 md_118 (i1 := 8) rfl ?_
    cases H
    exact n_iret (n_q md_118 rfl) (Or.inr rfl)
  · rw [if_neg h1] at H
    refine n_ifF (n_q md_118 rfl) (fun e1 => h1 (of_decide_eq_true e1)) ?_
    refine g_go 2 md_118 (i1 := 4) rfl ?_
    by_cases h2 : p1 < p0
    · rw [if_pos h2] at H
      refine n_cmpT (n_q md_118 rfl) (decide_eq_true h2) ?_
      refine g_go 1 md_118 (i1 := 8) rfl ?_
      cases H
      exact n_iret (n_q md_118 rfl) (Or.inr rfl)
    · rw [if_neg h2] at H
      refine n_cmpF (n_q md_118 rfl) (fun e1 => h2 (of_decide_eq_true e1)) ?_
      refine g_go 2 md_118 (i1 := 8) rfl ?_
      cases H
      exact n_iret (n_q md_118 rfl) (Or.inr rfl)

theorem md_8 : m_md 8 = m_X0_tell := rfl
noncomputable def f8_26 (s : g_S) (p0 : Nat) (p1 : Nat) (p2 : Int32) (p3 : Nat) (y1 : Int32) : Option (g_S) := (g_let (g_w s p0 4 y1) fun s1 => some s1)
theorem P8_26 {d ex : Nat} {s : g_S} {p0 : Nat} {p1 : Nat} {p2 : Int32} {p3 : Nat} {y1 : Int32} (ph0 : g_lay p0 = o_0 p0) (ph1 : g_lay p1 = o_6 p1) (ph3 : g_lay p3 = o_0 p3)  {z : (g_S)} (H : f8_26 s p0 p1 p2 p3 y1 = some z) (hd : 13 ≤ d)  : n_R X (d + 1) 8 26 [some (.ref p0), some (.ref p1), some (.int p2), some (.ref p3)] [.int y1, .ref p0] (g_M s ex) (g_rSV z ex) := by
  unfold f8_26 at H
  obtain ⟨s1, es1, H⟩ := g_letp H
  refine g_putf (n_q md_8 rfl) ph0 rfl rfl es1 ?_
  refine g_go 1 md_8 (i1 := 42) rfl ?_
  cases H
  exact n_end (n_q md_8 rfl) (fun _ => rfl)
noncomputable def f8_12 (s : g_S) (p0 : Nat) (p1 : Nat) (p2 : Int32) (p3 : Nat) (y1 : Int32) : Option (g_S) := (g_let (g_w s p0 3 y1) fun s1 => some s1)
theorem P8_12 {d ex : Nat} {s : g_S} {p0 : Nat} {p1 : Nat} {p2 : Int32} {p3 : Nat} {y1 : Int32} (ph0 : g_lay p0 = o_0 p0) (ph1 : g_lay p1 = o_6 p1) (ph3 : g_lay p3 = o_0 p3)  {z : (g_S)} (H : f8_12 s p0 p1 p2 p3 y1 = some z) (hd : 13 ≤ d)  : n_R X (d + 1) 8 12 [some (.ref p0), some (.ref p1), some (.int p2), some (.ref p3)] [.int y1, .ref p0] (g_M s ex) (g_rSV z ex) := by
  unfold f8_12 at H
  obtain ⟨s1, es1, H⟩ := g_letp H
  refine g_putf (n_q md_8 rfl) ph0 rfl rfl es1 ?_
  refine g_go 1 md_8 (i1 := 42) rfl ?_
  cases H
  exact n_end (n_q md_8 rfl) (fun _ => rfl)
noncomputable def f8 (s : g_S) (p0 : Nat) (p1 : Nat) (p2 : Int32) (p3 : Nat) : Option (g_S) := (if (s p1 0) = 4 then (if p2 = 0 then (f8_12 s p0 p1 p2 p3 (s p3 3)) else (f8_12 s p0 p1 p2 p3 (s p1 2))) else (if (s p1 0) = 5 then (if p2 = 0 then (f8_26 s p0 p1 p2 p3 (s p3 4)) else (f8_26 s p0 p1 p2 p3 (s p1 2))) else ((f118 s (s p1 1) 12).bind fun v3 => if v3 = 0 then (some s) else (if m_in (s p1 1) 13 = true then (f27 s (p0 + 6 + (s p1 1).toNatClampNeg) (s p1 0) p2).bind fun s7 => some s7 else none))))
theorem C8 {d ex : Nat} {s : g_S} {p0 : Nat} {p1 : Nat} {p2 : Int32} {p3 : Nat} (ph0 : g_lay p0 = o_0 p0) (ph1 : g_lay p1 = o_6 p1) (ph3 : g_lay p3 = o_0 p3) {z : g_S} (hd : 13 < d) (H : f8 s p0 p1 p2 p3 = some z) : n_C X d 8 [.ref p0, .ref p1, .int p2, .ref p3] (g_M s ex) (g_rSV z ex) := by
  obtain ⟨d, rfl⟩ : ∃ d1, d = d1 + 1 := ⟨d - 1, by omega⟩
  replace hd := Nat.le_of_lt_succ hd
  refine ⟨Nat.le_of_ble_eq_true rfl, ?_⟩
  rw [md_8]
  show n_R X (d + 1) 8 0 [some (.ref p0), some (.ref p1), some (.int p2), some (.ref p3)] [] (g_M s ex) _
  unfold f8 at H
  refine g_go 1 md_8 (i1 := 1) rfl ?_
  refine g_getf (n_q md_8 rfl) ph1 rfl ?_
  refine g_go 1 md_8 (i1 := 3) rfl ?_
  by_cases h1 : (s p1 0) = 4
  · rw [if_pos h1] at H
    refine n_cmpF (n_q md_8 rfl) (fun e1 => of_decide_eq_true e1 h1) ?_
    refine g_go 2 md_8 (i1 := 6) rfl ?_
    by_cases h2 : p2 = 0
    · rw [if_pos h2] at H
      refine n_ifT (n_q md_8 rfl) (decide_eq_true h2) ?_
      refine g_go 1 md_8 (i1 := 11) rfl ?_
      refine g_getf (n_q md_8 rfl) ph3 rfl ?_
      exact P8_12 ph0 ph1 ph3 H hd
    · rw [if_neg h2] at H
      refine n_ifF (n_q md_8 rfl) (fun e1 => h2 (of_decide_eq_true e1)) ?_
      refine g_go 1 md_8 (i1 := 8) rfl ?_
      refine g_getf (n_q md_8 rfl) ph1 rfl ?_
      refine g_go 1 md_8 (i1 := 12) rfl ?_
      exact P8_12 ph0 ph1 ph3 H hd
  · rw [if_neg h1] at H
    refine n_cmpT (n_q md_8 rfl) (decide_eq_true h1) ?_
    refine g_go 1 md_8 (i1 := 15) rfl ?_
    refine g_getf (n_q md_8 rfl) ph1 rfl ?_
    refine g_go 1 md_8 (i1 := 17) rfl ?_
    by_cases h2 : (s p1 0) = 5
    · rw [if_pos h2] at H
      refine n_cmpF (n_q md_8 rfl) (fun e1 => of_decide_eq_true e1 h2) ?_
      refine g_go 2 md_8 (i1 := 20) rfl ?_
      by_cases h3 : p2 = 0
      · rw [if_pos h3] at H
        refine n_ifT (n_q md_8 rfl) (decide_eq_true h3) ?_
        refine g_go 1 md_8 (i1 := 25) rfl ?_
        refine g_getf (n_q md_8 rfl) ph3 rfl ?_
        exact P8_26 ph0 ph1 ph3 H hd
      · rw [if_neg h3] at H
        refine n_ifF (n_q md_8 rfl) (fun e1 => h3 (of_decide_eq_true e1)) ?_
        refine g_go 1 md_8 (i1 := 22) rfl ?_
        refine g_getf (n_q md_8 rfl) ph1 rfl ?_
        refine g_go 1 md_8 (i1 := 26) rfl ?_
        exact P8_26 ph0 ph1 ph3 H hd
    · rw [if_neg h2] at H
      refine n_cmpT (n_q md_8 rfl) (decide_eq_true h2) ?_
      refine g_go 1 md_8 (i1 := 29) rfl ?_
      refine g_getf (n_q md_8 rfl) ph1 rfl ?_
      refine g_go 1 md_8 (i1 := 31) rfl ?_
      obtain ⟨v3, hv3, H⟩ := g_bind H
      refine n_callv (n_q md_8 rfl) (As := [.int (s p1 1), .int 12]) (rest := []) rfl rfl (Nat.le_of_ble_eq_true rfl) rfl rfl (C118 (by omega) hv3) ?_
      by_cases h4 : v3 = 0
      · rw [if_pos h4] at H
        refine n_ifT (n_q md_8 rfl) (decide_eq_true h4) ?_
        cases H
        exact n_end (n_q md_8 rfl) (fun _ => rfl)
      · rw [if_neg h4] at H
        refine n_ifF (n_q md_8 rfl) (fun e1 => h4 (of_decide_eq_true e1)) ?_
        refine g_go 1 md_8 (i1 := 34) rfl ?_
        refine g_getr (p0 + 1) (n_q md_8 rfl) ph0 rfl ?_
        refine g_go 1 md_8 (i1 := 36) rfl ?_
        refine g_getf (n_q md_8 rfl) ph1 rfl ?_
        obtain ⟨h5, H⟩ := g_gd H
        refine g_aald (n_q md_8 rfl) (tf_0_0 ph0) (by decide) h5 (g_range (g_inlt h5)) ?_
        refine g_go 1 md_8 (i1 := 39) rfl ?_
        refine g_getf (n_q md_8 rfl) ph1 rfl ?_
        refine g_go 1 md_8 (i1 := 41) rfl ?_
        obtain ⟨s7, hs7, H⟩ := g_bind H
        refine n_call (n_q md_8 rfl) (As := [.ref (p0 + 6 + (s p1 1).toNatClampNeg), .int (s p1 0), .int p2]) (rest := []) rfl rfl (Nat.le_of_ble_eq_true rfl) rfl (g_recv (b := 0) rfl (te_6 ph0 (g_inlt h5)) rfl) (C27 (te_6 ph0 (g_inlt h5)) (by omega) hs7) ?_
        cases H
        exact n_end (n_q md_8 rfl) (fun _ => rfl)

theorem md_7 : m_md 7 = m_X0_suppose := rfl
noncomputable def f7_21 (s : g_S) (p0 : Nat) (p1 : Nat) (p2 : Int32) (x3 : Int32) (y1 : Nat) (y2 : Int32) : Option ((Int32 × g_S) ⊕ (g_S)) := ((f8 s p0 y1 y2 p1).bind fun s2 => some (.inl (x3 + 1, s2)))
theorem P7_21 {d ex : Nat} {rr : m_R} {s : g_S} {p0 : Nat} {p1 : Nat} {p2 : Int32} {x3 : Int32} {y1 : Nat} {y2 : Int32} (ph0 : g_lay p0 = o_0 p0) (ph1 : g_lay p1 = o_0 p1) (hy1 : g_lay y1 = o_6 y1) {z : ((Int32 × g_S) ⊕ (g_S))} (H : f7_21 s p0 p1 p2 x3 y1 y2 = some z) (hd : 14 ≤ d) (K0 : ∀ S : Int32 × g_S, z = .inl S → n_R X (d + 1) 7 2 [some (.ref p0), some (.ref p1), some (.int p2), some (.int S.1)] [] (g_M S.2 ex) rr) (Kr : ∀ q, z = .inr (q) → g_rSV q ex = rr) : n_R X (d + 1) 7 21 [some (.ref p0), some (.ref p1), some (.int p2), some (.int x3)] [.int y2, .ref y1, .ref p0] (g_M s ex) rr := by
  unfold f7_21 at H
  refine g_go 1 md_7 (i1 := 22) rfl ?_
  obtain ⟨s2, hs2, H⟩ := g_bind H
  refine n_call (n_q md_7 rfl) (As := [.ref p0, .ref y1, .int y2, .ref p1]) (rest := []) rfl rfl (Nat.le_of_ble_eq_true rfl) rfl (g_recv (b := 0) rfl ph0 rfl) (C8 ph0 hy1 ph1 (by omega) hs2) ?_
  refine g_go 2 md_7 (i1 := 2) (ls1 := [some (.ref p0), some (.ref p1), some (.int p2), some (.int (x3 + 1))]) rfl ?_
  cases H
  exact K0 (x3 + 1, s2) rfl
noncomputable def f7_2 (s : g_S) (p0 : Nat) (p1 : Nat) (p2 : Int32) (x3 : Int32) : Option ((Int32 × g_S) ⊕ (g_S)) := (if x3 < (s p0 7) then (if m_in x3 8 = true then if ((p2 >>> (x3 &&& 31)) &&& 1) = 1 then (f7_21 s p0 p1 p2 x3 (p0 + 19 + x3.toNatClampNeg) 1) else (f7_21 s p0 p1 p2 x3 (p0 + 19 + x3.toNatClampNeg) 0) else none) else (some (.inr (s))))
theorem P7_2 {d ex : Nat} {rr : m_R} {s : g_S} {p0 : Nat} {p1 : Nat} {p2 : Int32} {x3 : Int32} (ph0 : g_lay p0 = o_0 p0) (ph1 : g_lay p1 = o_0 p1)  {z : ((Int32 × g_S) ⊕ (g_S))} (H : f7_2 s p0 p1 p2 x3 = some z) (hd : 14 ≤ d) (K0 : ∀ S : Int32 × g_S, z = .inl S → n_R X (d + 1) 7 2 [some (.ref p0), some (.ref p1), some (.int p2), some (.int S.1)] [] (g_M S.2 ex) rr) (Kr : ∀ q, z = .inr (q) → g_rSV q ex = rr) : n_R X (d + 1) 7 2 [some (.ref p0), some (.ref p1), some (.int p2), some (.int x3)] [] (g_M s ex) rr := by
  unfold f7_2 at H
  refine g_go 2 md_7 (i1 := 4) rfl ?_
  refine g_getf (n_q md_7 rfl) ph0 rfl ?_
  by_cases h1 : x3 < (s p0 7)
  · rw [if_pos h1] at H
    refine n_cmpF (n_q md_7 rfl) (fun e1 => absurd (of_decide_eq_true e1) (Int32.not_le.mpr h1)) ?_
    refine g_go 2 md_7 (i1 := 8) rfl ?_
    refine g_getr (p0 + 2) (n_q md_7 rfl) ph0 rfl ?_
    refine g_go 1 md_7 (i1 := 10) rfl ?_
    obtain ⟨h2, H⟩ := g_gd H
    refine g_aald (n_q md_7 rfl) (tf_0_6 ph0) (by decide) h2 (g_range (g_inlt h2)) ?_
    refine g_go 6 md_7 (i1 := 17) rfl ?_
    by_cases h3 : ((p2 >>> (x3 &&& 31)) &&& 1) = 1
    · rw [if_pos h3] at H
      refine n_cmpF (n_q md_7 rfl) (fun e1 => of_decide_eq_true e1 h3) ?_
      refine g_go 2 md_7 (i1 := 21) rfl ?_
      exact P7_21 ph0 ph1 (te_7 ph0 (g_inlt h2)) H hd K0 Kr
    · rw [if_neg h3] at H
      refine n_cmpT (n_q md_7 rfl) (decide_eq_true h3) ?_
      refine g_go 1 md_7 (i1 := 21) rfl ?_
      exact P7_21 ph0 ph1 (te_7 ph0 (g_inlt h2)) H hd K0 Kr
  · rw [if_neg h1] at H
    refine n_cmpT (n_q md_7 rfl) (decide_eq_true (Int32.not_lt.mp h1)) ?_
    cases H
    rw [← Kr _ rfl]
    exact n_end (n_q md_7 rfl) (fun _ => rfl)
noncomputable def f7_2L (s : g_S) (p0 : Nat) (p1 : Nat) (p2 : Int32) (x3 : Int32) : Option (g_S) := g_run (fun S : Int32 × g_S => f7_2 S.2 p0 p1 p2 S.1) (x3, s)
theorem f7_2L_eq (s : g_S) (p0 : Nat) (p1 : Nat) (p2 : Int32) (x3 : Int32) : f7_2L s p0 p1 p2 x3 = g_st (f7_2 s p0 p1 p2 x3) (fun S => f7_2L S.2 p0 p1 p2 S.1) := by
  unfold f7_2L
  exact g_run_eq _ _
theorem P7_2L {d ex : Nat} {s : g_S} {p0 : Nat} {p1 : Nat} {p2 : Int32} {x3 : Int32} (ph0 : g_lay p0 = o_0 p0) (ph1 : g_lay p1 = o_0 p1)  {z : (g_S)} (H : f7_2L s p0 p1 p2 x3 = some z) (hd : 14 ≤ d)  : n_R X (d + 1) 7 2 [some (.ref p0), some (.ref p1), some (.int p2), some (.int x3)] [] (g_M s ex) (g_rSV z ex) := by
  unfold f7_2L at H
  refine g_rs (Q := fun S => n_R X (d + 1) 7 2 [some (.ref p0), some (.ref p1), some (.int p2), some (.int S.1)] [] (g_M S.2 ex) (g_rSV z ex)) H ?_
  intro S w hb K0 KK
  refine P7_2 ph0 ph1 hb hd ?_ ?_
  · exact fun S1 e1 => K0 S1 e1
  · exact fun q e1 => by rw [KK q e1]
noncomputable def f7 (s : g_S) (p0 : Nat) (p1 : Nat) (p2 : Int32) : Option (g_S) := (f7_2L s p0 p1 p2 0)
theorem C7 {d ex : Nat} {s : g_S} {p0 : Nat} {p1 : Nat} {p2 : Int32} (ph0 : g_lay p0 = o_0 p0) (ph1 : g_lay p1 = o_0 p1) {z : g_S} (hd : 14 < d) (H : f7 s p0 p1 p2 = some z) : n_C X d 7 [.ref p0, .ref p1, .int p2] (g_M s ex) (g_rSV z ex) := by
  obtain ⟨d, rfl⟩ : ∃ d1, d = d1 + 1 := ⟨d - 1, by omega⟩
  replace hd := Nat.le_of_lt_succ hd
  refine ⟨Nat.le_of_ble_eq_true rfl, ?_⟩
  rw [md_7]
  show n_R X (d + 1) 7 0 [some (.ref p0), some (.ref p1), some (.int p2), none] [] (g_M s ex) _
  unfold f7 at H
  refine g_go 2 md_7 (i1 := 2) (ls1 := [some (.ref p0), some (.ref p1), some (.int p2), some (.int 0)]) rfl ?_
  exact P7_2L ph0 ph1 H hd

theorem md_11 : m_md 11 = m_X1_clear := rfl
noncomputable def f11_2 (s : g_S) (x1 : Int32) : Option ((Int32 × g_S) ⊕ (g_S)) := (if x1 < 13 then (if m_in x1 13 = true then g_let (g_w s 78 x1.toNatClampNeg 0) fun s3 => g_let (g_w s3 79 x1.toNatClampNeg ((-1))) fun s4 => g_let (g_w s4 80 x1.toNatClampNeg 0) fun s5 => g_let (g_w s5 81 x1.toNatClampNeg 0) fun s6 => g_let (g_w s6 83 x1.toNatClampNeg 0) fun s7 => g_let (g_w s7 82 x1.toNatClampNeg 0) fun s8 => some (.inl (x1 + 1, s8)) else none) else (some (.inr (s))))
theorem P11_2 {d ex : Nat} {rr : m_R} {s : g_S} {x1 : Int32}   {z : ((Int32 × g_S) ⊕ (g_S))} (H : f11_2 s x1 = some z) (hd : 12 ≤ d) (K0 : ∀ S : Int32 × g_S, z = .inl S → n_R X (d + 1) 11 2 [some (.ref 77), some (.int S.1)] [] (g_M S.2 ex) rr) (Kr : ∀ q, z = .inr (q) → g_rSV q ex = rr) : n_R X (d + 1) 11 2 [some (.ref 77), some (.int x1)] [] (g_M s ex) rr := by
  unfold f11_2 at H
  refine g_go 2 md_11 (i1 := 4) rfl ?_
  by_cases h1 : x1 < 13
  · rw [if_pos h1] at H
    refine n_cmpF (n_q md_11 rfl) (fun e1 => absurd (of_decide_eq_true e1) (Int32.not_le.mpr h1)) ?_
    refine g_go 1 md_11 (i1 := 6) rfl ?_
    refine g_getr 78 (n_q md_11 rfl) t_77 rfl ?_
    refine g_go 2 md_11 (i1 := 9) rfl ?_
    obtain ⟨h2, H⟩ := g_gd H
    obtain ⟨s3, es3, H⟩ := g_letp H
    refine g_iast (n_q md_11 rfl) t_78 h2 es3 ?_
    refine g_go 1 md_11 (i1 := 11) rfl ?_
    refine g_getr 79 (n_q md_11 rfl) t_77 rfl ?_
    refine g_go 2 md_11 (i1 := 14) rfl ?_
    obtain ⟨s4, es4, H⟩ := g_letp H
    refine g_iast (n_q md_11 rfl) t_79 h2 es4 ?_
    refine g_go 1 md_11 (i1 := 16) rfl ?_
    refine g_getr 80 (n_q md_11 rfl) t_77 rfl ?_
    refine g_go 2 md_11 (i1 := 19) rfl ?_
    obtain ⟨s5, es5, H⟩ := g_letp H
    refine g_iast (n_q md_11 rfl) t_80 h2 es5 ?_
    refine g_go 1 md_11 (i1 := 21) rfl ?_
    refine g_getr 81 (n_q md_11 rfl) t_77 rfl ?_
    refine g_go 2 md_11 (i1 := 24) rfl ?_
    obtain ⟨s6, es6, H⟩ := g_letp H
    refine g_iast (n_q md_11 rfl) t_81 h2 es6 ?_
    refine g_go 1 md_11 (i1 := 26) rfl ?_
    refine g_getr 83 (n_q md_11 rfl) t_77 rfl ?_
    refine g_go 2 md_11 (i1 := 29) rfl ?_
    obtain ⟨s7, es7, H⟩ := g_letp H
    refine g_iast (n_q md_11 rfl) t_83 h2 es7 ?_
    refine g_go 1 md_11 (i1 := 31) rfl ?_
    refine g_getr 82 (n_q md_11 rfl) t_77 rfl ?_
    refine g_go 2 md_11 (i1 := 34) rfl ?_
    obtain ⟨s8, es8, H⟩ := g_letp H
    refine g_bast (n_q md_11 rfl) t_82 h2 rfl es8 ?_
    refine g_go 2 md_11 (i1 := 2) (ls1 := [some (.ref 77), some (.int (x1 + 1))]) rfl ?_
    cases H
    exact K0 (x1 + 1, s8) rfl
  · rw [if_neg h1] at H
    refine n_cmpT (n_q md_11 rfl) (decide_eq_true (Int32.not_lt.mp h1)) ?_
    cases H
    rw [← Kr _ rfl]
    exact n_end (n_q md_11 rfl) (fun _ => rfl)
noncomputable def f11_2L (s : g_S) (x1 : Int32) : Option (g_S) := g_run (fun S : Int32 × g_S => f11_2 S.2 S.1) (x1, s)
theorem f11_2L_eq (s : g_S) (x1 : Int32) : f11_2L s x1 = g_st (f11_2 s x1) (fun S => f11_2L S.2 S.1) := by
  unfold f11_2L
  exact g_run_eq _ _
theorem P11_2L {d ex : Nat} {s : g_S} {x1 : Int32}   {z : (g_S)} (H : f11_2L s x1 = some z) (hd : 12 ≤ d)  : n_R X (d + 1) 11 2 [some (.ref 77), some (.int x1)] [] (g_M s ex) (g_rSV z ex) := by
  unfold f11_2L at H
  refine g_rs (Q := fun S => n_R X (d + 1) 11 2 [some (.ref 77), some (.int S.1)] [] (g_M S.2 ex) (g_rSV z ex)) H ?_
  intro S w hb K0 KK
  refine P11_2 hb hd ?_ ?_
  · exact fun S1 e1 => K0 S1 e1
  · exact fun q e1 => by rw [KK q e1]
noncomputable def f11 (s : g_S) : Option (g_S) := (f11_2L s 0)
theorem C11 {d ex : Nat} {s : g_S}  {z : g_S} (hd : 12 < d) (H : f11 s = some z) : n_C X d 11 [.ref 77] (g_M s ex) (g_rSV z ex) := by
  obtain ⟨d, rfl⟩ : ∃ d1, d = d1 + 1 := ⟨d - 1, by omega⟩
  replace hd := Nat.le_of_lt_succ hd
  refine ⟨Nat.le_of_ble_eq_true rfl, ?_⟩
  rw [md_11]
  show n_R X (d + 1) 11 0 [some (.ref 77), none] [] (g_M s ex) _
  unfold f11 at H
  refine g_go 2 md_11 (i1 := 2) (ls1 := [some (.ref 77), some (.int 0)]) rfl ?_
  exact P11_2L H hd

theorem md_42 : m_md 42 = m_X4_join := rfl
noncomputable def f42 (s : g_S) (p0 : Int32) (p1 : Int32) (p2 : Int32) : Option (Int32) := ((if p0 = 38 then (some (p1 &&& p2)) else (if p0 = 42 then (some (p1 * p2)) else (if p0 = 43 then (some (p1 + p2)) else (if p0 = 45 then (some (p1 - p2)) else (if p0 = 47 then (if p2 = 0 then (some 0) else (if p2 = 0 then none else some (p1 / p2))) else (if p0 = 60 then (if p1 < p2 then (some 1) else (some 0)) else (if p0 = 61 then (if p1 = p2 then (some 1) else (some 0)) else (if p0 = 62 then (if p2 < p1 then (some 1) else (some 0)) else (if p0 = 108 then (some (g_min p1 p2)) else (if p0 = 109 then (some (g_max p1 p2)) else (some (p1 ||| p2)))))))))))))
theorem C42 {d ex : Nat} {s : g_S} {p0 : Int32} {p1 : Int32} {p2 : Int32}  {z : Int32} (hd : 12 < d) (H : f42 s p0 p1 p2 = some z) : n_C X d 42 [.int p0, .int p1, .int p2] (g_M s ex) (g_rPI s z ex) := by
  obtain ⟨d, rfl⟩ : ∃ d1, d = d1 + 1 := ⟨d - 1, by omega⟩
  replace hd := Nat.le_of_lt_succ hd
  refine ⟨Nat.le_of_ble_eq_true rfl, ?_⟩
  rw [md_42]
  show n_R X (d + 1) 42 0 [some (.int p0), some (.int p1), some (.int p2)] [] (g_M s ex) _
  unfold f42 at H
  refine g_go 1 md_42 (i1 := 1) rfl ?_
  refine n_sw (n_q md_42 rfl) ?_
  unfold m_sw
  by_cases h1 : p0 = 38
  · rw [if_pos h1] at H ⊢
    refine g_go 3 md_42 (i1 := 54) rfl ?_
    cases H
    exact n_iret (n_q md_42 rfl) (Or.inl rfl)
  · rw [if_neg h1] at H ⊢
    unfold m_sw
    by_cases h2 : p0 = 42
    · rw [if_pos h2] at H ⊢
      refine g_go 3 md_42 (i1 := 13) rfl ?_
      cases H
      exact n_iret (n_q md_42 rfl) (Or.inl rfl)
    · rw [if_neg h2] at H ⊢
      unfold m_sw
      by_cases h3 : p0 = 43
      · rw [if_pos h3] at H ⊢
        refine g_go 3 md_42 (i1 := 5) rfl ?_
        cases H
        exact n_iret (n_q md_42 rfl) (Or.inl rfl)
      · rw [if_neg h3] at H ⊢
        unfold m_sw
        by_cases h4 : p0 = 45
        · rw [if_pos h4] at H ⊢
          refine g_go 3 md_42 (i1 := 9) rfl ?_
          cases H
          exact n_iret (n_q md_42 rfl) (Or.inl rfl)
        · rw [if_neg h4] at H ⊢
          unfold m_sw
          by_cases h5 : p0 = 47
          · rw [if_pos h5] at H ⊢
            refine g_go 1 md_42 (i1 := 15) rfl ?_
            by_cases h6 : p2 = 0
            · rw [if_pos h6] at H
              refine n_ifF (n_q md_42 rfl) (fun e1 => of_decide_eq_true e1 h6) ?_
              refine g_go 2 md_42 (i1 := 21) rfl ?_
              cases H
              exact n_iret (n_q md_42 rfl) (Or.inl rfl)
            · rw [if_neg h6] at H
              refine n_ifT (n_q md_42 rfl) (decide_eq_true h6) ?_
              refine g_go 2 md_42 (i1 := 20) rfl ?_
              obtain ⟨h7, H⟩ := g_gn H
              refine n_bin (n_q md_42 rfl) (g_div h7) ?_
              cases H
              exact n_iret (n_q md_42 rfl) (Or.inl rfl)
          · rw [if_neg h5] at H ⊢
            unfold m_sw
            by_cases h6 : p0 = 60
            · rw [if_pos h6] at H ⊢
              refine g_go 2 md_42 (i1 := 24) rfl ?_
              by_cases h7 : p1 < p2
              · rw [if_pos h7] at H
                refine n_cmpF (n_q md_42 rfl) (fun e1 => absurd (of_decide_eq_true e1) (Int32.not_le.mpr h7)) ?_
                refine g_go 2 md_42 (i1 := 28) rfl ?_
                cases H
                exact n_iret (n_q md_42 rfl) (Or.inl rfl)
              · rw [if_neg h7] at H
                refine n_cmpT (n_q md_42 rfl) (decide_eq_true (Int32.not_lt.mp h7)) ?_
                refine g_go 1 md_42 (i1 := 28) rfl ?_
                cases H
                exact n_iret (n_q md_42 rfl) (Or.inl rfl)
            · rw [if_neg h6] at H ⊢
              unfold m_sw
              by_cases h7 : p0 = 61
              · rw [if_pos h7] at H ⊢
                refine g_go 2 md_42 (i1 := 38) rfl ?_
                by_cases h8 : p1 = p2
                · rw [if_pos h8] at H
                  refine n_cmpF (n_q md_42 rfl) (fun e1 => of_decide_eq_true e1 h8) ?_
                  refine g_go 2 md_42 (i1 := 42) rfl ?_
                  cases H
                  exact n_iret (n_q md_42 rfl) (Or.inl rfl)
                · rw [if_neg h8] at H
                  refine n_cmpT (n_q md_42 rfl) (decide_eq_true h8) ?_
                  refine g_go 1 md_42 (i1 := 42) rfl ?_
                  cases H
                  exact n_iret (n_q md_42 rfl) (Or.inl rfl)
              · rw [if_neg h7] at H ⊢
                unfold m_sw
                by_cases h8 : p0 = 62
                · rw [if_pos h8] at H ⊢
                  refine g_go 2 md_42 (i1 := 31) rfl ?_
                  by_cases h9 : p2 < p1
                  · rw [if_pos h9] at H
                    refine n_cmpF (n_q md_42 rfl) (fun e1 => absurd (of_decide_eq_true e1) (Int32.not_le.mpr h9)) ?_
                    refine g_go 2 md_42 (i1 := 35) rfl ?_
                    cases H
                    exact n_iret (n_q md_42 rfl) (Or.inl rfl)
                  · rw [if_neg h9] at H
                    refine n_cmpT (n_q md_42 rfl) (decide_eq_true (Int32.not_lt.mp h9)) ?_
                    refine g_go 1 md_42 (i1 := 35) rfl ?_
                    cases H
                    exact n_iret (n_q md_42 rfl) (Or.inl rfl)
                · rw [if_neg h8] at H ⊢
                  unfold m_sw
                  by_cases h9 : p0 = 108
                  · rw [if_pos h9] at H ⊢
                    refine g_go 2 md_42 (i1 := 45) rfl ?_
                    refine n_min (n_q md_42 rfl) (by omega) (Nat.le_of_ble_eq_true rfl) ?_
                    cases H
                    exact n_iret (n_q md_42 rfl) (Or.inl rfl)
                  · rw [if_neg h9] at H ⊢
                    unfold m_sw
                    by_cases h10 : p0 = 109
                    · rw [if_pos h10] at H ⊢
                      refine g_go 2 md_42 (i1 := 49) rfl ?_
                      refine n_max (n_q md_42 rfl) (by omega) (Nat.le_of_ble_eq_true rfl) ?_
                      cases H
                      exact n_iret (n_q md_42 rfl) (Or.inl rfl)
                    · rw [if_neg h10] at H ⊢
                      unfold m_sw
                      refine g_go 3 md_42 (i1 := 58) rfl ?_
                      cases H
                      exact n_iret (n_q md_42 rfl) (Or.inl rfl)

theorem md_41 : m_md 41 = m_X4_work := rfl
noncomputable def f41_87 (s : g_S) (p0 : Nat) (p1 : Int32) (p2 : Nat) (x3 : Int32) : Option (Int32 × g_S) := (if 0 < x3 then (if m_in (x3 - 1) 24 = true then some ((s (p0 + 7) (x3 - 1).toNatClampNeg, s)) else none) else (some ((0, s))))
theorem P41_87 {d ex : Nat} {s : g_S} {p0 : Nat} {p1 : Int32} {p2 : Nat} {x3 : Int32} {u4 u5 : Option Value} (ph0 : g_lay p0 = o_4 p0) (ph2 : g_lay p2 = (1, (8, [])))  {z : (Int32 × g_S)} (H : f41_87 s p0 p1 p2 x3 = some z) (hd : 13 ≤ d)  : n_R X (d + 1) 41 87 [some (.ref p0), some (.int p1), some (.ref p2), some (.int x3), u4, u5] [] (g_M s ex) (g_rSI z ex) := by
  unfold f41_87 at H
  refine g_go 1 md_41 (i1 := 88) rfl ?_
  by_cases h1 : 0 < x3
  · rw [if_pos h1] at H
    refine n_ifF (n_q md_41 rfl) (fun e1 => absurd (of_decide_eq_true e1) (Int32.not_le.mpr h1)) ?_
    refine g_go 1 md_41 (i1 := 90) rfl ?_
    refine g_getr (p0 + 7) (n_q md_41 rfl) ph0 rfl ?_
    refine g_go 3 md_41 (i1 := 94) rfl ?_
    obtain ⟨h2, H⟩ := g_gd H
    refine g_iald (n_q md_41 rfl) (tf_4_9 ph0) h2 ?_
    refine g_go 1 md_41 (i1 := 97) rfl ?_
    cases H
    exact n_iret (n_q md_41 rfl) (Or.inl rfl)
  · rw [if_neg h1] at H
    refine n_ifT (n_q md_41 rfl) (decide_eq_true (Int32.not_lt.mp h1)) ?_
    refine g_go 1 md_41 (i1 := 97) rfl ?_
    cases H
    exact n_iret (n_q md_41 rfl) (Or.inl rfl)
noncomputable def f41_40 (s : g_S) (p0 : Nat) (p1 : Int32) (p2 : Nat) (x3 : Int32) (x4 : Int32) (y1 : Int32) (y2 : Int32) : Option ((Int32 × Int32 × g_S) ⊕ (Int32 × g_S)) := (if m_in y1 24 = true then g_let (g_w s (p0 + 7) y1.toNatClampNeg y2) fun s2 => some (.inl (x3 + 1, (x4 + 1, s2))) else none)
theorem P41_40 {d ex : Nat} {rr : m_R} {s : g_S} {p0 : Nat} {p1 : Int32} {p2 : Nat} {x3 : Int32} {x4 : Int32} {y1 : Int32} {y2 : Int32} {u5 : Option Value} (ph0 : g_lay p0 = o_4 p0) (ph2 : g_lay p2 = (1, (8, [])))  {z : ((Int32 × Int32 × g_S) ⊕ (Int32 × g_S))} (H : f41_40 s p0 p1 p2 x3 x4 y1 y2 = some z) (hd : 13 ≤ d) (K0 : ∀ S : Int32 × Int32 × g_S, z = .inl S → ∀ u5 : Option Value, n_R X (d + 1) 41 7 [some (.ref p0), some (.int p1), some (.ref p2), some (.int S.1), some (.int S.2.1), u5] [] (g_M S.2.2 ex) rr) (Kr : ∀ q, z = .inr (q) → g_rSI q ex = rr) : n_R X (d + 1) 41 40 [some (.ref p0), some (.int p1), some (.ref p2), some (.int x3), some (.int x4), u5] [.int y2, .int y1, .ref (p0 + 7)] (g_M s ex) rr := by
  unfold f41_40 at H
  obtain ⟨h1, H⟩ := g_gd H
  obtain ⟨s2, es2, H⟩ := g_letp H
  refine g_iast (n_q md_41 rfl) (tf_4_9 ph0) h1 es2 ?_
  refine g_go 4 md_41 (i1 := 7) (ls1 := [some (.ref p0), some (.int p1), some (.ref p2), some (.int (x3 + 1)), some (.int (x4 + 1)), u5]) rfl ?_
  cases H
  exact K0 (x3 + 1, (x4 + 1, s2)) rfl _
noncomputable def f41_24 (s : g_S) (p0 : Nat) (p1 : Int32) (p2 : Nat) (x3 : Int32) (x4 : Int32) (x5 : Int32) : Option ((Int32 × Int32 × g_S) ⊕ (Int32 × g_S)) := (if x3 < 24 then (if x5 < 8 then (if m_in x5 8 = true then f41_40 s p0 p1 p2 x3 x4 x3 (s p2 x5.toNatClampNeg) else none) else (f41_40 s p0 p1 p2 x3 x4 x3 (x5 - 256))) else (some (.inl (x3, (x4 + 1, s)))))
theorem P41_24 {d ex : Nat} {rr : m_R} {s : g_S} {p0 : Nat} {p1 : Int32} {p2 : Nat} {x3 : Int32} {x4 : Int32} {x5 : Int32} (ph0 : g_lay p0 = o_4 p0) (ph2 : g_lay p2 = (1, (8, [])))  {z : ((Int32 × Int32 × g_S) ⊕ (Int32 × g_S))} (H : f41_24 s p0 p1 p2 x3 x4 x5 = some z) (hd : 13 ≤ d) (K0 : ∀ S : Int32 × Int32 × g_S, z = .inl S → ∀ u5 : Option Value, n_R X (d + 1) 41 7 [some (.ref p0), some (.int p1), some (.ref p2), some (.int S.1), some (.int S.2.1), u5] [] (g_M S.2.2 ex) rr) (Kr : ∀ q, z = .inr (q) → g_rSI q ex = rr) : n_R X (d + 1) 41 24 [some (.ref p0), some (.int p1), some (.ref p2), some (.int x3), some (.int x4), some (.int x5)] [] (g_M s ex) rr := by
  unfold f41_24 at H
  refine g_go 2 md_41 (i1 := 26) rfl ?_
  by_cases h1 : x3 < 24
  · rw [if_pos h1] at H
    refine n_cmpF (n_q md_41 rfl) (fun e1 => absurd (of_decide_eq_true e1) (Int32.not_le.mpr h1)) ?_
    refine g_go 1 md_41 (i1 := 28) rfl ?_
    refine g_getr (p0 + 7) (n_q md_41 rfl) ph0 rfl ?_
    refine g_go 3 md_41 (i1 := 32) rfl ?_
    by_cases h2 : x5 < 8
    · rw [if_pos h2] at H
      refine n_cmpF (n_q md_41 rfl) (fun e1 => absurd (of_decide_eq_true e1) (Int32.not_le.mpr h2)) ?_
      refine g_go 2 md_41 (i1 := 35) rfl ?_
      obtain ⟨h3, H⟩ := g_gd H
      refine g_iald (n_q md_41 rfl) ph2 h3 ?_
      refine g_go 1 md_41 (i1 := 40) rfl ?_
      exact P41_40 ph0 ph2 H hd K0 Kr
    · rw [if_neg h2] at H
      refine n_cmpT (n_q md_41 rfl) (decide_eq_true (Int32.not_lt.mp h2)) ?_
      refine g_go 3 md_41 (i1 := 40) rfl ?_
      exact P41_40 ph0 ph2 H hd K0 Kr
  · rw [if_neg h1] at H
    refine n_cmpT (n_q md_41 rfl) (decide_eq_true (Int32.not_lt.mp h1)) ?_
    refine g_go 2 md_41 (i1 := 7) (ls1 := [some (.ref p0), some (.int p1), some (.ref p2), some (.int x3), some (.int (x4 + 1)), some (.int x5)]) rfl ?_
    cases H
    exact K0 (x3, (x4 + 1, s)) rfl _
noncomputable def f41_7 (s : g_S) (p0 : Nat) (p1 : Int32) (p2 : Nat) (x3 : Int32) (x4 : Int32) : Option ((Int32 × Int32 × g_S) ⊕ (Int32 × g_S)) := (if m_in p1 24 = true then if x4 < (s (p0 + 5) p1.toNatClampNeg) then (if m_in x4 500 = true then if (s (p0 + 6) x4.toNatClampNeg) < 8 then (f41_24 s p0 p1 p2 x3 x4 (s (p0 + 6) x4.toNatClampNeg)) else (if (s (p0 + 6) x4.toNatClampNeg) < 256 then (if (s (p0 + 6) x4.toNatClampNeg) = 33 then (if 0 < x3 then (if m_in (x3 - 1) 24 = true then g_let (g_w s (p0 + 7) (x3 - 1).toNatClampNeg (1 - (s (p0 + 7) (x3 - 1).toNatClampNeg))) fun s9 => some (.inl (x3, (x4 + 1, s9))) else none) else (some (.inl (x3, (x4 + 1, s))))) else (if 1 < x3 then (if m_in ((x3 + (-1)) - 1) 24 = true then if m_in (x3 + (-1)) 24 = true then (f42 s (s (p0 + 6) x4.toNatClampNeg) (s (p0 + 7) ((x3 + (-1)) - 1).toNatClampNeg) (s (p0 + 7) (x3 + (-1)).toNatClampNeg)).bind fun v10 => g_let (g_w s (p0 + 7) ((x3 + (-1)) - 1).toNatClampNeg v10) fun s11 => some (.inl (x3 + (-1), (x4 + 1, s11))) else none else none) else (some (.inl (x3, (x4 + 1, s)))))) else (f41_24 s p0 p1 p2 x3 x4 (s (p0 + 6) x4.toNatClampNeg))) else none) else (Option.map (fun w => (.inr (w) : ((Int32 × Int32 × g_S) ⊕ (Int32 × g_S)))) (f41_87 s p0 p1 p2 x3)) else none)
theorem P41_7 {d ex : Nat} {rr : m_R} {s : g_S} {p0 : Nat} {p1 : Int32} {p2 : Nat} {x3 : Int32} {x4 : Int32} {u5 : Option Value} (ph0 : g_lay p0 = o_4 p0) (ph2 : g_lay p2 = (1, (8, [])))  {z : ((Int32 × Int32 × g_S) ⊕ (Int32 × g_S))} (H : f41_7 s p0 p1 p2 x3 x4 = some z) (hd : 13 ≤ d) (K0 : ∀ S : Int32 × Int32 × g_S, z = .inl S → ∀ u5 : Option Value, n_R X (d + 1) 41 7 [some (.ref p0), some (.int p1), some (.ref p2), some (.int S.1), some (.int S.2.1), u5] [] (g_M S.2.2 ex) rr) (Kr : ∀ q, z = .inr (q) → g_rSI q ex = rr) : n_R X (d + 1) 41 7 [some (.ref p0), some (.int p1), some (.ref p2), some (.int x3), some (.int x4), u5] [] (g_M s ex) rr := by
  unfold f41_7 at H
  refine g_go 2 md_41 (i1 := 9) rfl ?_
  refine g_getr (p0 + 5) (n_q md_41 rfl) ph0 rfl ?_
  refine g_go 1 md_41 (i1 := 11) rfl ?_
  obtain ⟨h1, H⟩ := g_gd H
  refine g_iald (n_q md_41 rfl) (tf_4_6 ph0) h1 ?_
  by_cases h2 : x4 < (s (p0 + 5) p1.toNatClampNeg)
  · rw [if_pos h2] at H
    refine n_cmpF (n_q md_41 rfl) (fun e1 => absurd (of_decide_eq_true e1) (Int32.not_le.mpr h2)) ?_
    refine g_go 1 md_41 (i1 := 14) rfl ?_
    refine g_getr (p0 + 6) (n_q md_41 rfl) ph0 rfl ?_
    refine g_go 1 md_41 (i1 := 16) rfl ?_
    obtain ⟨h3, H⟩ := g_gd H
    refine g_iald (n_q md_41 rfl) (tf_4_7 ph0) h3 ?_
    refine g_go 3 md_41 (i1 := 20) (ls1 := [some (.ref p0), some (.int p1), some (.ref p2), some (.int x3), some (.int x4), some (.int (s (p0 + 6) x4.toNatClampNeg))]) rfl ?_
    by_cases h4 : (s (p0 + 6) x4.toNatClampNeg) < 8
    · rw [if_pos h4] at H
      refine n_cmpT (n_q md_41 rfl) (decide_eq_true h4) ?_
      exact P41_24 ph0 ph2 H hd K0 Kr
    · rw [if_neg h4] at H
      refine n_cmpF (n_q md_41 rfl) (fun e1 => h4 (of_decide_eq_true e1)) ?_
      refine g_go 2 md_41 (i1 := 23) rfl ?_
      by_cases h5 : (s (p0 + 6) x4.toNatClampNeg) < 256
      · rw [if_pos h5] at H
        refine n_cmpT (n_q md_41 rfl) (decide_eq_true h5) ?_
        refine g_go 2 md_41 (i1 := 45) rfl ?_
        by_cases h6 : (s (p0 + 6) x4.toNatClampNeg) = 33
        · rw [if_pos h6] at H
          refine n_cmpF (n_q md_41 rfl) (fun e1 => of_decide_eq_true e1 h6) ?_
          refine g_go 1 md_41 (i1 := 47) rfl ?_
          by_cases h7 : 0 < x3
          · rw [if_pos h7] at H
            refine n_ifF (n_q md_41 rfl) (fun e1 => absurd (of_decide_eq_true e1) (Int32.not_le.mpr h7)) ?_
            refine g_go 1 md_41 (i1 := 49) rfl ?_
            refine g_getr (p0 + 7) (n_q md_41 rfl) ph0 rfl ?_
            refine g_go 5 md_41 (i1 := 55) rfl ?_
            refine g_getr (p0 + 7) (n_q md_41 rfl) ph0 rfl ?_
            refine g_go 3 md_41 (i1 := 59) rfl ?_
            obtain ⟨h8, H⟩ := g_gd H
            refine g_iald (n_q md_41 rfl) (tf_4_9 ph0) h8 ?_
            refine g_go 1 md_41 (i1 := 61) rfl ?_
            obtain ⟨s9, es9, H⟩ := g_letp H
            refine g_iast (n_q md_41 rfl) (tf_4_9 ph0) h8 es9 ?_
            refine g_go 3 md_41 (i1 := 7) (ls1 := [some (.ref p0), some (.int p1), some (.ref p2), some (.int x3), some (.int (x4 + 1)), some (.int (s (p0 + 6) x4.toNatClampNeg))]) rfl ?_
            cases H
            exact K0 (x3, (x4 + 1, s9)) rfl _
          · rw [if_neg h7] at H
            refine n_ifT (n_q md_41 rfl) (decide_eq_true (Int32.not_lt.mp h7)) ?_
            refine g_go 2 md_41 (i1 := 7) (ls1 := [some (.ref p0), some (.int p1), some (.ref p2), some (.int x3), some (.int (x4 + 1)), some (.int (s (p0 + 6) x4.toNatClampNeg))]) rfl ?_
            cases H
            exact K0 (x3, (x4 + 1, s)) rfl _
        · rw [if_neg h6] at H
          refine n_cmpT (n_q md_41 rfl) (decide_eq_true h6) ?_
          refine g_go 2 md_41 (i1 := 65) rfl ?_
          by_cases h7 : 1 < x3
          · rw [if_pos h7] at H
            refine n_cmpF (n_q md_41 rfl) (fun e1 => absurd (of_decide_eq_true e1) (Int32.not_le.mpr h7)) ?_
            refine g_go 2 md_41 (i1 := 68) (ls1 := [some (.ref p0), some (.int p1), some (.ref p2), some (.int (x3 + (-1))), some (.int x4), some (.int (s (p0 + 6) x4.toNatClampNeg))]) rfl ?_
            refine g_getr (p0 + 7) (n_q md_41 rfl) ph0 rfl ?_
            refine g_go 5 md_41 (i1 := 74) rfl ?_
            refine g_getr (p0 + 7) (n_q md_41 rfl) ph0 rfl ?_
            refine g_go 3 md_41 (i1 := 78) rfl ?_
            obtain ⟨h8, H⟩ := g_gd H
            refine g_iald (n_q md_41 rfl) (tf_4_9 ph0) h8 ?_
            refine g_go 1 md_41 (i1 := 80) rfl ?_
            refine g_getr (p0 + 7) (n_q md_41 rfl) ph0 rfl ?_
            refine g_go 1 md_41 (i1 := 82) rfl ?_
            obtain ⟨h9, H⟩ := g_gd H
            refine g_iald (n_q md_41 rfl) (tf_4_9 ph0) h9 ?_
            obtain ⟨v10, hv10, H⟩ := g_bind H
            refine n_callv (n_q md_41 rfl) (As := [.int (s (p0 + 6) x4.toNatClampNeg), .int (s (p0 + 7) ((x3 + (-1)) - 1).toNatClampNeg), .int (s (p0 + 7) (x3 + (-1)).toNatClampNeg)]) (rest := [.int ((x3 + (-1)) - 1), .ref (p0 + 7)]) rfl rfl (Nat.le_of_ble_eq_true rfl) rfl rfl (C42 (by omega) hv10) ?_
            obtain ⟨s11, es11, H⟩ := g_letp H
            refine g_iast (n_q md_41 rfl) (tf_4_9 ph0) h8 es11 ?_
            refine g_go 2 md_41 (i1 := 7) (ls1 := [some (.ref p0), some (.int p1), some (.ref p2), some (.int (x3 + (-1))), some (.int (x4 + 1)), some (.int (s (p0 + 6) x4.toNatClampNeg))]) rfl ?_
            cases H
            exact K0 (x3 + (-1), (x4 + 1, s11)) rfl _
          · rw [if_neg h7] at H
            refine n_cmpT (n_q md_41 rfl) (decide_eq_true (Int32.not_lt.mp h7)) ?_
            refine g_go 2 md_41 (i1 := 7) (ls1 := [some (.ref p0), some (.int p1), some (.ref p2), some (.int x3), some (.int (x4 + 1)), some (.int (s (p0 + 6) x4.toNatClampNeg))]) rfl ?_
            cases H
            exact K0 (x3, (x4 + 1, s)) rfl _
      · rw [if_neg h5] at H
        refine n_cmpF (n_q md_41 rfl) (fun e1 => h5 (of_decide_eq_true e1)) ?_
        exact P41_24 ph0 ph2 H hd K0 Kr
  · rw [if_neg h2] at H
    refine n_cmpT (n_q md_41 rfl) (decide_eq_true (Int32.not_lt.mp h2)) ?_
    obtain ⟨w, hw, H⟩ := g_mapp H
    subst H
    rw [← Kr _ rfl]
    exact P41_87 ph0 ph2 hw hd
noncomputable def f41_7L (s : g_S) (p0 : Nat) (p1 : Int32) (p2 : Nat) (x3 : Int32) (x4 : Int32) : Option (Int32 × g_S) := g_run (fun S : Int32 × Int32 × g_S => f41_7 S.2.2 p0 p1 p2 S.1 S.2.1) (x3, (x4, s))
theorem f41_7L_eq (s : g_S) (p0 : Nat) (p1 : Int32) (p2 : Nat) (x3 : Int32) (x4 : Int32) : f41_7L s p0 p1 p2 x3 x4 = g_st (f41_7 s p0 p1 p2 x3 x4) (fun S => f41_7L S.2.2 p0 p1 p2 S.1 S.2.1) := by
  unfold f41_7L
  exact g_run_eq _ _
theorem P41_7L {d ex : Nat} {s : g_S} {p0 : Nat} {p1 : Int32} {p2 : Nat} {x3 : Int32} {x4 : Int32} {u5 : Option Value} (ph0 : g_lay p0 = o_4 p0) (ph2 : g_lay p2 = (1, (8, [])))  {z : (Int32 × g_S)} (H : f41_7L s p0 p1 p2 x3 x4 = some z) (hd : 13 ≤ d)  : n_R X (d + 1) 41 7 [some (.ref p0), some (.int p1), some (.ref p2), some (.int x3), some (.int x4), u5] [] (g_M s ex) (g_rSI z ex) := by
  unfold f41_7L at H
  refine g_rs (Q := fun S => ∀ u5 : Option Value, n_R X (d + 1) 41 7 [some (.ref p0), some (.int p1), some (.ref p2), some (.int S.1), some (.int S.2.1), u5] [] (g_M S.2.2 ex) (g_rSI z ex)) H ?_ u5
  intro S w hb K0 KK u5
  refine P41_7 ph0 ph2 hb hd ?_ ?_
  · exact fun S1 e1 => K0 S1 e1
  · exact fun q e1 => by rw [KK q e1]
noncomputable def f41 (s : g_S) (p0 : Nat) (p1 : Int32) (p2 : Nat) : Option (Int32 × g_S) := (if m_in p1 24 = true then f41_7L s p0 p1 p2 0 (s (p0 + 4) p1.toNatClampNeg) else none)
theorem C41 {d ex : Nat} {s : g_S} {p0 : Nat} {p1 : Int32} {p2 : Nat} (ph0 : g_lay p0 = o_4 p0) (ph2 : g_lay p2 = (1, (8, []))) {z : Int32 × g_S} (hd : 13 < d) (H : f41 s p0 p1 p2 = some z) : n_C X d 41 [.ref p0, .int p1, .ref p2] (g_M s ex) (g_rSI z ex) := by
  obtain ⟨d, rfl⟩ : ∃ d1, d = d1 + 1 := ⟨d - 1, by omega⟩
  replace hd := Nat.le_of_lt_succ hd
  refine ⟨Nat.le_of_ble_eq_true rfl, ?_⟩
  rw [md_41]
  show n_R X (d + 1) 41 0 [some (.ref p0), some (.int p1), some (.ref p2), none, none, none] [] (g_M s ex) _
  unfold f41 at H
  refine g_go 3 md_41 (i1 := 3) (ls1 := [some (.ref p0), some (.int p1), some (.ref p2), some (.int 0), none, none]) rfl ?_
  refine g_getr (p0 + 4) (n_q md_41 rfl) ph0 rfl ?_
  refine g_go 1 md_41 (i1 := 5) rfl ?_
  obtain ⟨h1, H⟩ := g_gd H
  refine g_iald (n_q md_41 rfl) (tf_4_5 ph0) h1 ?_
  refine g_go 1 md_41 (i1 := 7) (ls1 := [some (.ref p0), some (.int p1), some (.ref p2), some (.int 0), some (.int (s (p0 + 4) p1.toNatClampNeg)), none]) rfl ?_
  exact P41_7L ph0 ph2 H hd

theorem md_34 : m_md 34 = m_X4_holdsFor := rfl
noncomputable def f34_2 (s : g_S) (p0 : Nat) (p1 : Int32) (p2 : Int32) (p3 : Int32) (p4 : Nat) (x5 : Int32) : Option ((Int32 × g_S) ⊕ (Int32 × g_S)) := (if x5 < (s p0 1) then ((f39 s p0 x5 p1 p2).bind fun v2 => if v2 = 0 then (some (.inl (x5 + 1, s))) else (if m_in x5 24 = true then (f40 s (s (p0 + 3) x5.toNatClampNeg) p3).bind fun v5 => if v5 = 0 then (some (.inl (x5 + 1, s))) else (if (s (p0 + 4) x5.toNatClampNeg) = (s (p0 + 5) x5.toNatClampNeg) then (some (.inr ((1, s)))) else (g_bd (f41 s p0 x5 p4) fun v8 s9 => if v8 = 0 then (some (.inl (x5 + 1, s9))) else (some (.inr ((1, s9)))))) else none)) else (some (.inr ((0, s)))))
theorem P34_2 {d ex : Nat} {rr : m_R} {s : g_S} {p0 : Nat} {p1 : Int32} {p2 : Int32} {p3 : Int32} {p4 : Nat} {x5 : Int32} (ph0 : g_lay p0 = o_4 p0) (ph4 : g_lay p4 = (1, (8, [])))  {z : ((Int32 × g_S) ⊕ (Int32 × g_S))} (H : f34_2 s p0 p1 p2 p3 p4 x5 = some z) (hd : 14 ≤ d) (K0 : ∀ S : Int32 × g_S, z = .inl S → n_R X (d + 1) 34 2 [some (.ref p0), some (.int p1), some (.int p2), some (.int p3), some (.ref p4), some (.int S.1)] [] (g_M S.2 ex) rr) (Kr : ∀ q, z = .inr (q) → g_rSI q ex = rr) : n_R X (d + 1) 34 2 [some (.ref p0), some (.int p1), some (.int p2), some (.int p3), some (.ref p4), some (.int x5)] [] (g_M s ex) rr := by
  unfold f34_2 at H
  refine g_go 2 md_34 (i1 := 4) rfl ?_
  refine g_getf (n_q md_34 rfl) ph0 rfl ?_
  by_cases h1 : x5 < (s p0 1)
  · rw [if_pos h1] at H
    refine n_cmpF (n_q md_34 rfl) (fun e1 => absurd (of_decide_eq_true e1) (Int32.not_le.mpr h1)) ?_
    refine g_go 4 md_34 (i1 := 10) rfl ?_
    obtain ⟨v2, hv2, H⟩ := g_bind H
    refine n_callv (n_q md_34 rfl) (As := [.ref p0, .int x5, .int p1, .int p2]) (rest := []) rfl rfl (Nat.le_of_ble_eq_true rfl) rfl (g_recv (b := 0) rfl ph0 rfl) (C39 ph0 (by omega) hv2) ?_
    by_cases h3 : v2 = 0
    · rw [if_pos h3] at H
      refine n_ifT (n_q md_34 rfl) (decide_eq_true h3) ?_
      refine g_go 2 md_34 (i1 := 2) (ls1 := [some (.ref p0), some (.int p1), some (.int p2), some (.int p3), some (.ref p4), some (.int (x5 + 1))]) rfl ?_
      cases H
      exact K0 (x5 + 1, s) rfl
    · rw [if_neg h3] at H
      refine n_ifF (n_q md_34 rfl) (fun e1 => h3 (of_decide_eq_true e1)) ?_
      refine g_go 1 md_34 (i1 := 13) rfl ?_
      refine g_getr (p0 + 3) (n_q md_34 rfl) ph0 rfl ?_
      refine g_go 1 md_34 (i1 := 15) rfl ?_
      obtain ⟨h4, H⟩ := g_gd H
      refine g_iald (n_q md_34 rfl) (tf_4_4 ph0) h4 ?_
      refine g_go 1 md_34 (i1 := 17) rfl ?_
      obtain ⟨v5, hv5, H⟩ := g_bind H
      refine n_callv (n_q md_34 rfl) (As := [.int (s (p0 + 3) x5.toNatClampNeg), .int p3]) (rest := []) rfl rfl (Nat.le_of_ble_eq_true rfl) rfl rfl (C40 (by omega) hv5) ?_
      by_cases h6 : v5 = 0
      · rw [if_pos h6] at H
        refine n_ifT (n_q md_34 rfl) (decide_eq_true h6) ?_
        refine g_go 2 md_34 (i1 := 2) (ls1 := [some (.ref p0), some (.int p1), some (.int p2), some (.int p3), some (.ref p4), some (.int (x5 + 1))]) rfl ?_
        cases H
        exact K0 (x5 + 1, s) rfl
      · rw [if_neg h6] at H
        refine n_ifF (n_q md_34 rfl) (fun e1 => h6 (of_decide_eq_true e1)) ?_
        refine g_go 1 md_34 (i1 := 20) rfl ?_
        refine g_getr (p0 + 4) (n_q md_34 rfl) ph0 rfl ?_
        refine g_go 1 md_34 (i1 := 22) rfl ?_
        refine g_iald (n_q md_34 rfl) (tf_4_5 ph0) h4 ?_
        refine g_go 1 md_34 (i1 := 24) rfl ?_
        refine g_getr (p0 + 5) (n_q md_34 rfl) ph0 rfl ?_
        refine g_go 1 md_34 (i1 := 26) rfl ?_
        refine g_iald (n_q md_34 rfl) (tf_4_6 ph0) h4 ?_
        by_cases h7 : (s (p0 + 4) x5.toNatClampNeg) = (s (p0 + 5) x5.toNatClampNeg)
        · rw [if_pos h7] at H
          refine n_cmpT (n_q md_34 rfl) (decide_eq_true h7) ?_
          refine g_go 1 md_34 (i1 := 34) rfl ?_
          cases H
          rw [← Kr _ rfl]
          exact n_iret (n_q md_34 rfl) (Or.inr rfl)
        · rw [if_neg h7] at H
          refine n_cmpF (n_q md_34 rfl) (fun e1 => h7 (of_decide_eq_true e1)) ?_
          refine g_go 3 md_34 (i1 := 31) rfl ?_
          obtain ⟨v8, s9, hv8, H⟩ := g_bdp H
          refine n_callv (n_q md_34 rfl) (As := [.ref p0, .int x5, .ref p4]) (rest := []) rfl rfl (Nat.le_of_ble_eq_true rfl) rfl (g_recv (b := 0) rfl ph0 rfl) (C41 ph0 ph4 (by omega) hv8) ?_
          by_cases h10 : v8 = 0
          · rw [if_pos h10] at H
            refine n_ifT (n_q md_34 rfl) (decide_eq_true h10) ?_
            refine g_go 2 md_34 (i1 := 2) (ls1 := [some (.ref p0), some (.int p1), some (.int p2), some (.int p3), some (.ref p4), some (.int (x5 + 1))]) rfl ?_
            cases H
            exact K0 (x5 + 1, s9) rfl
          · rw [if_neg h10] at H
            refine n_ifF (n_q md_34 rfl) (fun e1 => h10 (of_decide_eq_true e1)) ?_
            refine g_go 1 md_34 (i1 := 34) rfl ?_
            cases H
            rw [← Kr _ rfl]
            exact n_iret (n_q md_34 rfl) (Or.inr rfl)
  · rw [if_neg h1] at H
    refine n_cmpT (n_q md_34 rfl) (decide_eq_true (Int32.not_lt.mp h1)) ?_
    refine g_go 1 md_34 (i1 := 38) rfl ?_
    cases H
    rw [← Kr _ rfl]
    exact n_iret (n_q md_34 rfl) (Or.inr rfl)
noncomputable def f34_2L (s : g_S) (p0 : Nat) (p1 : Int32) (p2 : Int32) (p3 : Int32) (p4 : Nat) (x5 : Int32) : Option (Int32 × g_S) := g_run (fun S : Int32 × g_S => f34_2 S.2 p0 p1 p2 p3 p4 S.1) (x5, s)
theorem f34_2L_eq (s : g_S) (p0 : Nat) (p1 : Int32) (p2 : Int32) (p3 : Int32) (p4 : Nat) (x5 : Int32) : f34_2L s p0 p1 p2 p3 p4 x5 = g_st (f34_2 s p0 p1 p2 p3 p4 x5) (fun S => f34_2L S.2 p0 p1 p2 p3 p4 S.1) := by
  unfold f34_2L
  exact g_run_eq _ _
theorem P34_2L {d ex : Nat} {s : g_S} {p0 : Nat} {p1 : Int32} {p2 : Int32} {p3 : Int32} {p4 : Nat} {x5 : Int32} (ph0 : g_lay p0 = o_4 p0) (ph4 : g_lay p4 = (1, (8, [])))  {z : (Int32 × g_S)} (H : f34_2L s p0 p1 p2 p3 p4 x5 = some z) (hd : 14 ≤ d)  : n_R X (d + 1) 34 2 [some (.ref p0), some (.int p1), some (.int p2), some (.int p3), some (.ref p4), some (.int x5)] [] (g_M s ex) (g_rSI z ex) := by
  unfold f34_2L at H
  refine g_rs (Q := fun S => n_R X (d + 1) 34 2 [some (.ref p0), some (.int p1), some (.int p2), some (.int p3), some (.ref p4), some (.int S.1)] [] (g_M S.2 ex) (g_rSI z ex)) H ?_
  intro S w hb K0 KK
  refine P34_2 ph0 ph4 hb hd ?_ ?_
  · exact fun S1 e1 => K0 S1 e1
  · exact fun q e1 => by rw [KK q e1]
noncomputable def f34 (s : g_S) (p0 : Nat) (p1 : Int32) (p2 : Int32) (p3 : Int32) (p4 : Nat) : Option (Int32 × g_S) := (f34_2L s p0 p1 p2 p3 p4 0)
theorem C34 {d ex : Nat} {s : g_S} {p0 : Nat} {p1 : Int32} {p2 : Int32} {p3 : Int32} {p4 : Nat} (ph0 : g_lay p0 = o_4 p0) (ph4 : g_lay p4 = (1, (8, []))) {z : Int32 × g_S} (hd : 14 < d) (H : f34 s p0 p1 p2 p3 p4 = some z) : n_C X d 34 [.ref p0, .int p1, .int p2, .int p3, .ref p4] (g_M s ex) (g_rSI z ex) := by
  obtain ⟨d, rfl⟩ : ∃ d1, d = d1 + 1 := ⟨d - 1, by omega⟩
  replace hd := Nat.le_of_lt_succ hd
  refine ⟨Nat.le_of_ble_eq_true rfl, ?_⟩
  rw [md_34]
  show n_R X (d + 1) 34 0 [some (.ref p0), some (.int p1), some (.int p2), some (.int p3), some (.ref p4), none] [] (g_M s ex) _
  unfold f34 at H
  refine g_go 2 md_34 (i1 := 2) (ls1 := [some (.ref p0), some (.int p1), some (.int p2), some (.int p3), some (.ref p4), some (.int 0)]) rfl ?_
  exact P34_2L ph0 ph4 H hd

end K0
