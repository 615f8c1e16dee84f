/-! METHODS, written by wip/whole/gen_51.py (10). -/
section K10
variable {X : m_X}
theorem md_202 : m_md 202 = m_X8_ones := rfl
noncomputable def f202_4 (s : g_S) (p0 : Int32) (x1 : Int32) (x2 : Int32) : Option ((Int32 × Int32) ⊕ (Int32)) := (if x2 < 8 then (some (.inl (x1 + ((p0 >>> (x2 &&& 31)) &&& 1), x2 + 1))) else (some (.inr (x1))))
theorem P202_4 {d ex : Nat} {rr : m_R} {s : g_S} {p0 : Int32} {x1 : Int32} {x2 : Int32}   {z : ((Int32 × Int32) ⊕ (Int32))} (H : f202_4 s p0 x1 x2 = some z) (hd : 12 ≤ d) (K0 : ∀ S : Int32 × Int32, z = .inl S → n_R X (d + 1) 202 4 [some (.int p0), some (.int S.1), some (.int S.2)] [] (g_M s ex) rr) (Kr : ∀ q, z = .inr (q) → g_rPI s q ex = rr) : n_R X (d + 1) 202 4 [some (.int p0), some (.int x1), some (.int x2)] [] (g_M s ex) rr := by
  unfold f202_4 at H
  refine g_go 2 md_202 (i1 := 6) rfl ?_
  by_cases h1 : x2 < 8
  · rw [if_pos h1] at H
    refine n_cmpF (n_q md_202 rfl) (fun e1 => absurd (of_decide_eq_true e1) (Int32.not_le.mpr h1)) ?_
    refine g_go 10 md_202 (i1 := 4) (ls1 := [some (.int p0), some (.int (x1 + ((p0 >>> (x2 &&& 31)) &&& 1))), some (.int (x2 + 1))]) rfl ?_
    cases H
    exact K0 (x1 + ((p0 >>> (x2 &&& 31)) &&& 1), x2 + 1) rfl
  · rw [if_neg h1] at H
    refine n_cmpT (n_q md_202 rfl) (decide_eq_true (Int32.not_lt.mp h1)) ?_
    refine g_go 1 md_202 (i1 := 18) rfl ?_
    cases H
    rw [← Kr _ rfl]
    exact n_iret (n_q md_202 rfl) (Or.inl rfl)
noncomputable def f202_4L (s : g_S) (p0 : Int32) (x1 : Int32) (x2 : Int32) : Option (Int32) := g_run (fun S : Int32 × Int32 => f202_4 s p0 S.1 S.2) (x1, x2)
theorem f202_4L_eq (s : g_S) (p0 : Int32) (x1 : Int32) (x2 : Int32) : f202_4L s p0 x1 x2 = g_st (f202_4 s p0 x1 x2) (fun S => f202_4L s p0 S.1 S.2) := by
  unfold f202_4L
  exact g_run_eq _ _
theorem P202_4L {d ex : Nat} {s : g_S} {p0 : Int32} {x1 : Int32} {x2 : Int32}   {z : (Int32)} (H : f202_4L s p0 x1 x2 = some z) (hd : 12 ≤ d)  : n_R X (d + 1) 202 4 [some (.int p0), some (.int x1), some (.int x2)] [] (g_M s ex) (g_rPI s z ex) := by
  unfold f202_4L at H
  refine g_rs (Q := fun S => n_R X (d + 1) 202 4 [some (.int p0), some (.int S.1), some (.int S.2)] [] (g_M s ex) (g_rPI s z ex)) H ?_
  intro S w hb K0 KK
  refine P202_4 hb hd ?_ ?_
  · exact fun S1 e1 => K0 S1 e1
  · exact fun q e1 => by rw [KK q e1]
noncomputable def f202 (s : g_S) (p0 : Int32) : Option (Int32) := (f202_4L s p0 0 0)
theorem C202 {d ex : Nat} {s : g_S} {p0 : Int32}  {z : Int32} (hd : 12 < d) (H : f202 s p0 = some z) : n_C X d 202 [.int p0] (g_M s ex) (g_rPI s z ex) := by
  obtain ⟨d, rfl⟩ : ∃ d1, d = d1 + 1 := ⟨d - 1, by omega⟩
  replace hd := Nat.le_of_lt_succ hd
  refine ⟨Nat.le_of_ble_eq_true rfl, ?_⟩
  rw [md_202]
  show n_R X (d + 1) 202 0 [some (.int p0), none, none] [] (g_M s ex) _
  unfold f202 at H
  refine g_go 4 md_202 (i1 := 4) (ls1 := [some (.int p0), some (.int 0), some (.int 0)]) rfl ?_
  exact P202_4L H hd

theorem md_203 : m_md 203 = m_X8_areAlike := rfl
noncomputable def f203_2 (s : g_S) (p1 : Int32) (p2 : Int32) (x3 : Int32) : Option ((Int32) ⊕ (Int32)) := (if x3 < 13 then (if m_in p1 256 = true then if m_in x3 13 = true then if m_in p2 256 = true then if (s (283 + p1.toNatClampNeg) x3.toNatClampNeg) = (s (283 + p2.toNatClampNeg) x3.toNatClampNeg) then (some (.inl (x3 + 1))) else (some (.inr (0))) else none else none else none) else (some (.inr (1))))
theorem P203_2 {d ex : Nat} {rr : m_R} {s : g_S} {p1 : Int32} {p2 : Int32} {x3 : Int32}   {z : ((Int32) ⊕ (Int32))} (H : f203_2 s p1 p2 x3 = some z) (hd : 12 ≤ d) (K0 : ∀ S : Int32, z = .inl S → n_R X (d + 1) 203 2 [some (.ref 199), some (.int p1), some (.int p2), some (.int S)] [] (g_M s ex) rr) (Kr : ∀ q, z = .inr (q) → g_rPI s q ex = rr) : n_R X (d + 1) 203 2 [some (.ref 199), some (.int p1), some (.int p2), some (.int x3)] [] (g_M s ex) rr := by
  unfold f203_2 at H
  refine g_go 2 md_203 (i1 := 4) rfl ?_
  by_cases h1 : x3 < 13
  · rw [if_pos h1] at H
    refine n_cmpF (n_q md_203 rfl) (fun e1 => absurd (of_decide_eq_true e1) (Int32.not_le.mpr h1)) ?_
    refine g_go 1 md_203 (i1 := 6) rfl ?_
    refine g_getr 282 (n_q md_203 rfl) t_199 rfl ?_
    refine g_go 1 md_203 (i1 := 8) rfl ?_
    obtain ⟨h2, H⟩ := g_gd H
    refine g_aald (n_q md_203 rfl) ta_282 (by decide) h2 (g_range (g_inlt h2)) ?_
    refine g_go 1 md_203 (i1 := 10) rfl ?_
    obtain ⟨h3, H⟩ := g_gd H
    refine g_iald (n_q md_203 rfl) (te_282 (g_inlt h2)) h3 ?_
    refine g_go 1 md_203 (i1 := 12) rfl ?_
    refine g_getr 282 (n_q md_203 rfl) t_199 rfl ?_
    refine g_go 1 md_203 (i1 := 14) rfl ?_
    obtain ⟨h4, H⟩ := g_gd H
    refine g_aald (n_q md_203 rfl) ta_282 (by decide) h4 (g_range (g_inlt h4)) ?_
    refine g_go 1 md_203 (i1 := 16) rfl ?_
    refine g_iald (n_q md_203 rfl) (te_282 (g_inlt h4)) h3 ?_
    by_cases h5 : (s (283 + p1.toNatClampNeg) x3.toNatClampNeg) = (s (283 + p2.toNatClampNeg) x3.toNatClampNeg)
    · rw [if_pos h5] at H
      refine n_cmpT (n_q md_203 rfl) (decide_eq_true h5) ?_
      refine g_go 2 md_203 (i1 := 2) (ls1 := [some (.ref 199), some (.int p1), some (.int p2), some (.int (x3 + 1))]) rfl ?_
      cases H
      exact K0 (x3 + 1) rfl
    · rw [if_neg h5] at H
      refine n_cmpF (n_q md_203 rfl) (fun e1 => h5 (of_decide_eq_true e1)) ?_
      refine g_go 1 md_203 (i1 := 19) rfl ?_
      cases H
      rw [← Kr _ rfl]
      exact n_iret (n_q md_203 rfl) (Or.inr rfl)
  · rw [if_neg h1] at H
    refine n_cmpT (n_q md_203 rfl) (decide_eq_true (Int32.not_lt.mp h1)) ?_
    refine g_go 1 md_203 (i1 := 23) rfl ?_
    cases H
    rw [← Kr _ rfl]
    exact n_iret (n_q md_203 rfl) (Or.inr rfl)
noncomputable def f203_2L (s : g_S) (p1 : Int32) (p2 : Int32) (x3 : Int32) : Option (Int32) := g_run (fun S : Int32 => f203_2 s p1 p2 S) x3
theorem f203_2L_eq (s : g_S) (p1 : Int32) (p2 : Int32) (x3 : Int32) : f203_2L s p1 p2 x3 = g_st (f203_2 s p1 p2 x3) (fun S => f203_2L s p1 p2 S) := by
  unfold f203_2L
  exact g_run_eq _ _
theorem P203_2L {d ex : Nat} {s : g_S} {p1 : Int32} {p2 : Int32} {x3 : Int32}   {z : (Int32)} (H : f203_2L s p1 p2 x3 = some z) (hd : 12 ≤ d)  : n_R X (d + 1) 203 2 [some (.ref 199), some (.int p1), some (.int p2), some (.int x3)] [] (g_M s ex) (g_rPI s z ex) := by
  unfold f203_2L at H
  refine g_rs (Q := fun S => n_R X (d + 1) 203 2 [some (.ref 199), some (.int p1), some (.int p2), some (.int S)] [] (g_M s ex) (g_rPI s z ex)) H ?_
  intro S w hb K0 KK
  refine P203_2 hb hd ?_ ?_
  · exact fun S1 e1 => K0 S1 e1
  · exact fun q e1 => by rw [KK q e1]
noncomputable def f203 (s : g_S) (p1 : Int32) (p2 : Int32) : Option (Int32) := (f203_2L s p1 p2 0)
theorem C203 {d ex : Nat} {s : g_S} {p1 : Int32} {p2 : Int32}  {z : Int32} (hd : 12 < d) (H : f203 s p1 p2 = some z) : n_C X d 203 [.ref 199, .int p1, .int p2] (g_M s ex) (g_rPI s z ex) := by
  obtain ⟨d, rfl⟩ : ∃ d1, d = d1 + 1 := ⟨d - 1, by omega⟩
  replace hd := Nat.le_of_lt_succ hd
  refine ⟨Nat.le_of_ble_eq_true rfl, ?_⟩
  rw [md_203]
  show n_R X (d + 1) 203 0 [some (.ref 199), some (.int p1), some (.int p2), none] [] (g_M s ex) _
  unfold f203 at H
  refine g_go 2 md_203 (i1 := 2) (ls1 := [some (.ref 199), some (.int p1), some (.int p2), some (.int 0)]) rfl ?_
  exact P203_2L H hd

theorem md_204 : m_md 204 = m_X8_settles := rfl
noncomputable def f204_2 (s : g_S) (p1 : Int32) (x2 : Int32) : Option ((Int32) ⊕ (Int32)) := ((f195 s).bind fun v1 => if x2 < v1 then ((f203 s x2 (x2 &&& p1)).bind fun v3 => if v3 = 0 then (some (.inr (0))) else (some (.inl (x2 + 1)))) else (some (.inr (1))))
theorem P204_2 {d ex : Nat} {rr : m_R} {s : g_S} {p1 : Int32} {x2 : Int32}   {z : ((Int32) ⊕ (Int32))} (H : f204_2 s p1 x2 = some z) (hd : 13 ≤ d) (K0 : ∀ S : Int32, z = .inl S → n_R X (d + 1) 204 2 [some (.ref 199), some (.int p1), some (.int S)] [] (g_M s ex) rr) (Kr : ∀ q, z = .inr (q) → g_rPI s q ex = rr) : n_R X (d + 1) 204 2 [some (.ref 199), some (.int p1), some (.int x2)] [] (g_M s ex) rr := by
  unfold f204_2 at H
  refine g_go 2 md_204 (i1 := 4) rfl ?_
  obtain ⟨v1, hv1, H⟩ := g_bind H
  refine n_callv (n_q md_204 rfl) (As := [.ref 199]) (rest := [.int x2]) rfl rfl (Nat.le_of_ble_eq_true rfl) rfl (g_recv (b := 0) rfl t_199 rfl) (C195 (by omega) hv1) ?_
  by_cases h2 : x2 < v1
  · rw [if_pos h2] at H
    refine n_cmpF (n_q md_204 rfl) (fun e1 => absurd (of_decide_eq_true e1) (Int32.not_le.mpr h2)) ?_
    refine g_go 5 md_204 (i1 := 11) rfl ?_
    obtain ⟨v3, hv3, H⟩ := g_bind H
    refine n_callv (n_q md_204 rfl) (As := [.ref 199, .int x2, .int (x2 &&& p1)]) (rest := []) rfl rfl (Nat.le_of_ble_eq_true rfl) rfl (g_recv (b := 0) rfl t_199 rfl) (C203 (by omega) hv3) ?_
    by_cases h4 : v3 = 0
    · rw [if_pos h4] at H
      refine n_ifF (n_q md_204 rfl) (fun e1 => of_decide_eq_true e1 h4) ?_
      refine g_go 1 md_204 (i1 := 14) rfl ?_
      cases H
      rw [← Kr _ rfl]
      exact n_iret (n_q md_204 rfl) (Or.inr rfl)
    · rw [if_neg h4] at H
      refine n_ifT (n_q md_204 rfl) (decide_eq_true h4) ?_
      refine g_go 2 md_204 (i1 := 2) (ls1 := [some (.ref 199), some (.int p1), some (.int (x2 + 1))]) rfl ?_
      cases H
      exact K0 (x2 + 1) rfl
  · rw [if_neg h2] at H
    refine n_cmpT (n_q md_204 rfl) (decide_eq_true (Int32.not_lt.mp h2)) ?_
    refine g_go 1 md_204 (i1 := 18) rfl ?_
    cases H
    rw [← Kr _ rfl]
    exact n_iret (n_q md_204 rfl) (Or.inr rfl)
noncomputable def f204_2L (s : g_S) (p1 : Int32) (x2 : Int32) : Option (Int32) := g_run (fun S : Int32 => f204_2 s p1 S) x2
theorem f204_2L_eq (s : g_S) (p1 : Int32) (x2 : Int32) : f204_2L s p1 x2 = g_st (f204_2 s p1 x2) (fun S => f204_2L s p1 S) := by
  unfold f204_2L
  exact g_run_eq _ _
theorem P204_2L {d ex : Nat} {s : g_S} {p1 : Int32} {x2 : Int32}   {z : (Int32)} (H : f204_2L s p1 x2 = some z) (hd : 13 ≤ d)  : n_R X (d + 1) 204 2 [some (.ref 199), some (.int p1), some (.int x2)] [] (g_M s ex) (g_rPI s z ex) := by
  unfold f204_2L at H
  refine g_rs (Q := fun S => n_R X (d + 1) 204 2 [some (.ref 199), some (.int p1), some (.int S)] [] (g_M s ex) (g_rPI s z ex)) H ?_
  intro S w hb K0 KK
  refine P204_2 hb hd ?_ ?_
  · exact fun S1 e1 => K0 S1 e1
  · exact fun q e1 => by rw [KK q e1]
noncomputable def f204 (s : g_S) (p1 : Int32) : Option (Int32) := (f204_2L s p1 0)
theorem C204 {d ex : Nat} {s : g_S} {p1 : Int32}  {z : Int32} (hd : 13 < d) (H : f204 s p1 = some z) : n_C X d 204 [.ref 199, .int p1] (g_M s ex) (g_rPI s z ex) := by
  obtain ⟨d, rfl⟩ : ∃ d1, d = d1 + 1 := ⟨d - 1, by omega⟩
  replace hd := Nat.le_of_lt_succ hd
  refine ⟨Nat.le_of_ble_eq_true rfl, ?_⟩
  rw [md_204]
  show n_R X (d + 1) 204 0 [some (.ref 199), some (.int p1), none] [] (g_M s ex) _
  unfold f204 at H
  refine g_go 2 md_204 (i1 := 2) (ls1 := [some (.ref 199), some (.int p1), some (.int 0)]) rfl ?_
  exact P204_2L H hd

theorem md_205 : m_md 205 = m_X8_least := rfl
noncomputable def f205_31 (s : g_S) : Option (Int32 × g_S) := ((f195 s).bind fun v1 => some ((v1 - 1, s)))
theorem P205_31 {d ex : Nat} {s : g_S} {u1 u2 : Option Value}   {z : (Int32 × g_S)} (H : f205_31 s = some z) (hd : 82 ≤ d)  : n_R X (d + 1) 205 31 [some (.ref 199), u1, u2] [] (g_M s ex) (g_rSI z ex) := by
  unfold f205_31 at H
  refine g_go 1 md_205 (i1 := 32) rfl ?_
  obtain ⟨v1, hv1, H⟩ := g_bind H
  refine n_callv (n_q md_205 rfl) (As := [.ref 199]) (rest := []) rfl rfl (Nat.le_of_ble_eq_true rfl) rfl (g_recv (b := 0) rfl t_199 rfl) (C195 (by omega) hv1) ?_
  refine g_go 2 md_205 (i1 := 35) rfl ?_
  cases H
  exact n_iret (n_q md_205 rfl) (Or.inl rfl)
noncomputable def f205_13 (s : g_S) (x1 : Int32) (x2 : Int32) : Option ((Int32) ⊕ ((Int32) ⊕ (Int32 × g_S))) := ((f195 s).bind fun v1 => if x2 < v1 then ((f202 s x2).bind fun v3 => if v3 = x1 then ((f204 s x2).bind fun v5 => if v5 = 0 then (some (.inl (x2 + 1))) else (some (.inr (.inr ((x2, s)))))) else (some (.inl (x2 + 1)))) else (some (.inr (.inl (x1 + 1)))))
theorem P205_13 {d ex : Nat} {rr : m_R} {s : g_S} {x1 : Int32} {x2 : Int32}   {z : ((Int32) ⊕ ((Int32) ⊕ (Int32 × g_S)))} (H : f205_13 s x1 x2 = some z) (hd : 82 ≤ d) (K0 : ∀ S : Int32, z = .inl S → n_R X (d + 1) 205 13 [some (.ref 199), some (.int x1), some (.int S)] [] (g_M s ex) rr) (K1 : ∀ S : Int32, z = .inr (.inl S) → ∀ u2 : Option Value, n_R X (d + 1) 205 7 [some (.ref 199), some (.int S), u2] [] (g_M s ex) rr) (Kr : ∀ q, z = .inr (.inr (q)) → g_rSI q ex = rr) : n_R X (d + 1) 205 13 [some (.ref 199), some (.int x1), some (.int x2)] [] (g_M s ex) rr := by
  unfold f205_13 at H
  refine g_go 2 md_205 (i1 := 15) rfl ?_
  obtain ⟨v1, hv1, H⟩ := g_bind H
  refine n_callv (n_q md_205 rfl) (As := [.ref 199]) (rest := [.int x2]) rfl rfl (Nat.le_of_ble_eq_true rfl) rfl (g_recv (b := 0) rfl t_199 rfl) (C195 (by omega) hv1) ?_
  by_cases h2 : x2 < v1
  · rw [if_pos h2] at H
    refine n_cmpF (n_q md_205 rfl) (fun e1 => absurd (of_decide_eq_true e1) (Int32.not_le.mpr h2)) ?_
    refine g_go 1 md_205 (i1 := 18) rfl ?_
    obtain ⟨v3, hv3, H⟩ := g_bind H
    refine n_callv (n_q md_205 rfl) (As := [.int x2]) (rest := []) rfl rfl (Nat.le_of_ble_eq_true rfl) rfl rfl (C202 (by omega) hv3) ?_
    refine g_go 1 md_205 (i1 := 20) rfl ?_
    by_cases h4 : v3 = x1
    · rw [if_pos h4] at H
      refine n_cmpF (n_q md_205 rfl) (fun e1 => of_decide_eq_true e1 h4) ?_
      refine g_go 2 md_205 (i1 := 23) rfl ?_
      obtain ⟨v5, hv5, H⟩ := g_bind H
      refine n_callv (n_q md_205 rfl) (As := [.ref 199, .int x2]) (rest := []) rfl rfl (Nat.le_of_ble_eq_true rfl) rfl (g_recv (b := 0) rfl t_199 rfl) (C204 (by omega) hv5) ?_
      by_cases h6 : v5 = 0
      · rw [if_pos h6] at H
        refine n_ifT (n_q md_205 rfl) (decide_eq_true h6) ?_
        refine g_go 2 md_205 (i1 := 13) (ls1 := [some (.ref 199), some (.int x1), some (.int (x2 + 1))]) rfl ?_
        cases H
        exact K0 (x2 + 1) rfl
      · rw [if_neg h6] at H
        refine n_ifF (n_q md_205 rfl) (fun e1 => h6 (of_decide_eq_true e1)) ?_
        refine g_go 1 md_205 (i1 := 26) rfl ?_
        cases H
        rw [← Kr _ rfl]
        exact n_iret (n_q md_205 rfl) (Or.inl rfl)
    · rw [if_neg h4] at H
      refine n_cmpT (n_q md_205 rfl) (decide_eq_true h4) ?_
      refine g_go 2 md_205 (i1 := 13) (ls1 := [some (.ref 199), some (.int x1), some (.int (x2 + 1))]) rfl ?_
      cases H
      exact K0 (x2 + 1) rfl
  · rw [if_neg h2] at H
    refine n_cmpT (n_q md_205 rfl) (decide_eq_true (Int32.not_lt.mp h2)) ?_
    refine g_go 2 md_205 (i1 := 7) (ls1 := [some (.ref 199), some (.int (x1 + 1)), some (.int x2)]) rfl ?_
    cases H
    exact K1 (x1 + 1) rfl _
noncomputable def f205_13L (s : g_S) (x1 : Int32) (x2 : Int32) : Option ((Int32) ⊕ (Int32 × g_S)) := g_run (fun S : Int32 => f205_13 s x1 S) x2
theorem f205_13L_eq (s : g_S) (x1 : Int32) (x2 : Int32) : f205_13L s x1 x2 = g_st (f205_13 s x1 x2) (fun S => f205_13L s x1 S) := by
  unfold f205_13L
  exact g_run_eq _ _
theorem P205_13L {d ex : Nat} {rr : m_R} {s : g_S} {x1 : Int32} {x2 : Int32}   {z : ((Int32) ⊕ (Int32 × g_S))} (H : f205_13L s x1 x2 = some z) (hd : 82 ≤ d) (K0 : ∀ S : Int32, z = .inl S → ∀ u2 : Option Value, n_R X (d + 1) 205 7 [some (.ref 199), some (.int S), u2] [] (g_M s ex) rr) (Kr : ∀ q, z = .inr (q) → g_rSI q ex = rr) : n_R X (d + 1) 205 13 [some (.ref 199), some (.int x1), some (.int x2)] [] (g_M s ex) rr := by
  unfold f205_13L at H
  have KO0 := K0
  have KOr := Kr
  refine g_rs (Q := fun S => n_R X (d + 1) 205 13 [some (.ref 199), some (.int x1), some (.int S)] [] (g_M s ex) rr) H ?_
  intro S w hb K0 KK
  refine P205_13 hb hd ?_ ?_ ?_
  · exact fun S1 e1 => K0 S1 e1
  · exact fun S1 e1 => KO0 S1 (KK _ e1).symm
  · exact fun q e1 => KOr q (KK _ e1).symm
noncomputable def f205_7 (s : g_S) (x1 : Int32) : Option ((Int32) ⊕ (Int32 × g_S)) := (if (s 199 43) < x1 then (Option.map (fun w => (.inr (w) : ((Int32) ⊕ (Int32 × g_S)))) (f205_31 s)) else (f205_13L s x1 0))
theorem P205_7 {d ex : Nat} {rr : m_R} {s : g_S} {x1 : Int32} {u2 : Option Value}   {z : ((Int32) ⊕ (Int32 × g_S))} (H : f205_7 s x1 = some z) (hd : 82 ≤ d) (K0 : ∀ S : Int32, z = .inl S → ∀ u2 : Option Value, n_R X (d + 1) 205 7 [some (.ref 199), some (.int S), u2] [] (g_M s ex) rr) (Kr : ∀ q, z = .inr (q) → g_rSI q ex = rr) : n_R X (d + 1) 205 7 [some (.ref 199), some (.int x1), u2] [] (g_M s ex) rr := by
  unfold f205_7 at H
  refine g_go 2 md_205 (i1 := 9) rfl ?_
  refine g_getf (n_q md_205 rfl) t_199 rfl ?_
  by_cases h1 : (s 199 43) < x1
  · rw [if_pos h1] at H
    refine n_cmpT (n_q md_205 rfl) (decide_eq_true h1) ?_
    obtain ⟨w, hw, H⟩ := g_mapp H
    subst H
    rw [← Kr _ rfl]
    exact P205_31 hw hd
  · rw [if_neg h1] at H
    refine n_cmpF (n_q md_205 rfl) (fun e1 => h1 (of_decide_eq_true e1)) ?_
    refine g_go 2 md_205 (i1 := 13) (ls1 := [some (.ref 199), some (.int x1), some (.int 0)]) rfl ?_
    exact P205_13L H hd K0 Kr
noncomputable def f205_7L (s : g_S) (x1 : Int32) : Option (Int32 × g_S) := g_run (fun S : Int32 => f205_7 s S) x1
theorem f205_7L_eq (s : g_S) (x1 : Int32) : f205_7L s x1 = g_st (f205_7 s x1) (fun S => f205_7L s S) := by
  unfold f205_7L
  exact g_run_eq _ _
theorem P205_7L {d ex : Nat} {s : g_S} {x1 : Int32} {u2 : Option Value}   {z : (Int32 × g_S)} (H : f205_7L s x1 = some z) (hd : 82 ≤ d)  : n_R X (d + 1) 205 7 [some (.ref 199), some (.int x1), u2] [] (g_M s ex) (g_rSI z ex) := by
  unfold f205_7L at H
  refine g_rs (Q := fun S => ∀ u2 : Option Value, n_R X (d + 1) 205 7 [some (.ref 199), some (.int S), u2] [] (g_M s ex) (g_rSI z ex)) H ?_ u2
  intro S w hb K0 KK u2
  refine P205_7 hb hd ?_ ?_
  · exact fun S1 e1 => K0 S1 e1
  · exact fun q e1 => by rw [KK q e1]
noncomputable def f205 (s : g_S) : Option (Int32 × g_S) := (g_let (g_w s 199 0 0) fun s1 => (f196 s1).bind fun s3 => f205_7L s3 0)
theorem C205 {d ex : Nat} {s : g_S}  {z : Int32 × g_S} (hd : 82 < d) (H : f205 s = some z) : n_C X d 205 [.ref 199] (g_M s ex) (g_rSI z ex) := by
  obtain ⟨d, rfl⟩ : ∃ d1, d = d1 + 1 := ⟨d - 1, by omega⟩
  replace hd := Nat.le_of_lt_succ hd
  refine ⟨Nat.le_of_ble_eq_true rfl, ?_⟩
  rw [md_205]
  show n_R X (d + 1) 205 0 [some (.ref 199), none, none] [] (g_M s ex) _
  unfold f205 at H
  refine g_go 2 md_205 (i1 := 2) rfl ?_
  obtain ⟨s1, es1, H⟩ := g_letp H
  refine g_putf (n_q md_205 rfl) t_199 rfl rfl es1 ?_
  refine g_go 1 md_205 (i1 := 4) rfl ?_
  obtain ⟨s3, hs3, H⟩ := g_bind H
  refine n_call (n_q md_205 rfl) (As := [.ref 199]) (rest := []) rfl rfl (Nat.le_of_ble_eq_true rfl) rfl (g_recv (b := 0) rfl t_199 rfl) (C196 (by omega) hs3) ?_
  refine g_go 2 md_205 (i1 := 7) (ls1 := [some (.ref 199), some (.int 0), none]) rfl ?_
  exact P205_7L H hd

theorem md_206 : m_md 206 = m_X8_find := rfl
noncomputable def f206_98 (s : g_S) (p1 : Int32) (p2 : Int32) (x3 : Int32) : Option (Int32 × g_S) := (g_let (g_w s 199 43 ((s 199 43) - 1)) fun s1 => some ((x3, s1)))
theorem P206_98 {d ex : Nat} {s : g_S} {p1 : Int32} {p2 : Int32} {x3 : Int32} {u4 u5 u6 u7 : Option Value}   {z : (Int32 × g_S)} (H : f206_98 s p1 p2 x3 = some z) (hd : 13 ≤ d)  : n_R X (d + 1) 206 98 [some (.ref 199), some (.int p1), some (.int p2), some (.int x3), u4, u5, u6, u7] [] (g_M s ex) (g_rSI z ex) := by
  unfold f206_98 at H
  refine g_go 2 md_206 (i1 := 100) rfl ?_
  refine g_getf (n_q md_206 rfl) t_199 rfl ?_
  refine g_go 2 md_206 (i1 := 103) rfl ?_
  obtain ⟨s1, es1, H⟩ := g_letp H
  refine g_putf (n_q md_206 rfl) t_199 rfl rfl es1 ?_
  refine g_go 1 md_206 (i1 := 105) rfl ?_
  cases H
  exact n_iret (n_q md_206 rfl) (Or.inl rfl)
noncomputable def f206_77 (s : g_S) (p1 : Int32) (p2 : Int32) (x3 : Int32) (x6 : Int32) (x7 : Int32) : Option ((Int32 × g_S) ⊕ ((Int32 × g_S) ⊕ (Int32 × g_S))) := (if x7 < 3 then (if m_in x6 8 = true then if m_in (x6 + 1) 8 = true then if m_in x7 3 = true then g_let (g_w s (260 + x6.toNatClampNeg) x7.toNatClampNeg (s (260 + (x6 + 1).toNatClampNeg) x7.toNatClampNeg)) fun s5 => some (.inl (x7 + 1, s5)) else none else none else none) else (some (.inr (.inl (x6 + 1, s)))))
theorem P206_77 {d ex : Nat} {rr : m_R} {s : g_S} {p1 : Int32} {p2 : Int32} {x3 : Int32} {x6 : Int32} {x7 : Int32} {u4 u5 : Option Value}   {z : ((Int32 × g_S) ⊕ ((Int32 × g_S) ⊕ (Int32 × g_S)))} (H : f206_77 s p1 p2 x3 x6 x7 = some z) (hd : 13 ≤ d) (K0 : ∀ S : Int32 × g_S, z = .inl S → ∀ u4 u5 : Option Value, n_R X (d + 1) 206 77 [some (.ref 199), some (.int p1), some (.int p2), some (.int x3), u4, u5, some (.int x6), some (.int S.1)] [] (g_M S.2 ex) rr) (K1 : ∀ S : Int32 × g_S, z = .inr (.inl S) → ∀ u4 u5 u7 : Option Value, n_R X (d + 1) 206 69 [some (.ref 199), some (.int p1), some (.int p2), some (.int x3), u4, u5, some (.int S.1), u7] [] (g_M S.2 ex) rr) (Kr : ∀ q, z = .inr (.inr (q)) → g_rSI q ex = rr) : n_R X (d + 1) 206 77 [some (.ref 199), some (.int p1), some (.int p2), some (.int x3), u4, u5, some (.int x6), some (.int x7)] [] (g_M s ex) rr := by
  unfold f206_77 at H
  refine g_go 2 md_206 (i1 := 79) rfl ?_
  by_cases h1 : x7 < 3
  · rw [if_pos h1] at H
    refine n_cmpF (n_q md_206 rfl) (fun e1 => absurd (of_decide_eq_true e1) (Int32.not_le.mpr h1)) ?_
    refine g_go 1 md_206 (i1 := 81) rfl ?_
    refine g_getr 259 (n_q md_206 rfl) t_199 rfl ?_
    refine g_go 1 md_206 (i1 := 83) rfl ?_
    obtain ⟨h2, H⟩ := g_gd H
    refine g_aald (n_q md_206 rfl) ta_259 (by decide) h2 (g_range (g_inlt h2)) ?_
    refine g_go 2 md_206 (i1 := 86) rfl ?_
    refine g_getr 259 (n_q md_206 rfl) t_199 rfl ?_
    refine g_go 3 md_206 (i1 := 90) rfl ?_
    obtain ⟨h3, H⟩ := g_gd H
    refine g_aald (n_q md_206 rfl) ta_259 (by decide) h3 (g_range (g_inlt h3)) ?_
    refine g_go 1 md_206 (i1 := 92) rfl ?_
    obtain ⟨h4, H⟩ := g_gd H
    refine g_iald (n_q md_206 rfl) (te_259 (g_inlt h3)) h4 ?_
    obtain ⟨s5, es5, H⟩ := g_letp H
    refine g_iast (n_q md_206 rfl) (te_259 (g_inlt h2)) h4 es5 ?_
    refine g_go 2 md_206 (i1 := 77) (ls1 := [some (.ref 199), some (.int p1), some (.int p2), some (.int x3), u4, u5, some (.int x6), some (.int (x7 + 1))]) rfl ?_
    cases H
    exact K0 (x7 + 1, s5) rfl _ _
  · rw [if_neg h1] at H
    refine n_cmpT (n_q md_206 rfl) (decide_eq_true (Int32.not_lt.mp h1)) ?_
    refine g_go 2 md_206 (i1 := 69) (ls1 := [some (.ref 199), some (.int p1), some (.int p2), some (.int x3), u4, u5, some (.int (x6 + 1)), some (.int x7)]) rfl ?_
    cases H
    exact K1 (x6 + 1, s) rfl _ _ _
noncomputable def f206_77L (s : g_S) (p1 : Int32) (p2 : Int32) (x3 : Int32) (x6 : Int32) (x7 : Int32) : Option ((Int32 × g_S) ⊕ (Int32 × g_S)) := g_run (fun S : Int32 × g_S => f206_77 S.2 p1 p2 x3 x6 S.1) (x7, s)
theorem f206_77L_eq (s : g_S) (p1 : Int32) (p2 : Int32) (x3 : Int32) (x6 : Int32) (x7 : Int32) : f206_77L s p1 p2 x3 x6 x7 = g_st (f206_77 s p1 p2 x3 x6 x7) (fun S => f206_77L S.2 p1 p2 x3 x6 S.1) := by
  unfold f206_77L
  exact g_run_eq _ _
theorem P206_77L {d ex : Nat} {rr : m_R} {s : g_S} {p1 : Int32} {p2 : Int32} {x3 : Int32} {x6 : Int32} {x7 : Int32} {u4 u5 : Option Value}   {z : ((Int32 × g_S) ⊕ (Int32 × g_S))} (H : f206_77L s p1 p2 x3 x6 x7 = some z) (hd : 13 ≤ d) (K0 : ∀ S : Int32 × g_S, z = .inl S → ∀ u4 u5 u7 : Option Value, n_R X (d + 1) 206 69 [some (.ref 199), some (.int p1), some (.int p2), some (.int x3), u4, u5, some (.int S.1), u7] [] (g_M S.2 ex) rr) (Kr : ∀ q, z = .inr (q) → g_rSI q ex = rr) : n_R X (d + 1) 206 77 [some (.ref 199), some (.int p1), some (.int p2), some (.int x3), u4, u5, some (.int x6), some (.int x7)] [] (g_M s ex) rr := by
  unfold f206_77L at H
  have KO0 := K0
  have KOr := Kr
  refine g_rs (Q := fun S => ∀ u4 u5 : Option Value, n_R X (d + 1) 206 77 [some (.ref 199), some (.int p1), some (.int p2), some (.int x3), u4, u5, some (.int x6), some (.int S.1)] [] (g_M S.2 ex) rr) H ?_ u4 u5
  intro S w hb K0 KK u4 u5
  refine P206_77 hb hd ?_ ?_ ?_
  · exact fun S1 e1 => K0 S1 e1
  · exact fun S1 e1 => KO0 S1 (KK _ e1).symm
  · exact fun q e1 => KOr q (KK _ e1).symm
noncomputable def f206_69 (s : g_S) (p1 : Int32) (p2 : Int32) (x3 : Int32) (x6 : Int32) : Option ((Int32 × g_S) ⊕ (Int32 × g_S)) := (if (x6 + 1) < (s 199 43) then (f206_77L s p1 p2 x3 x6 0) else (Option.map (fun w => (.inr (w) : ((Int32 × g_S) ⊕ (Int32 × g_S)))) (f206_98 s p1 p2 x3)))
theorem P206_69 {d ex : Nat} {rr : m_R} {s : g_S} {p1 : Int32} {p2 : Int32} {x3 : Int32} {x6 : Int32} {u4 u5 u7 : Option Value}   {z : ((Int32 × g_S) ⊕ (Int32 × g_S))} (H : f206_69 s p1 p2 x3 x6 = some z) (hd : 13 ≤ d) (K0 : ∀ S : Int32 × g_S, z = .inl S → ∀ u4 u5 u7 : Option Value, n_R X (d + 1) 206 69 [some (.ref 199), some (.int p1), some (.int p2), some (.int x3), u4, u5, some (.int S.1), u7] [] (g_M S.2 ex) rr) (Kr : ∀ q, z = .inr (q) → g_rSI q ex = rr) : n_R X (d + 1) 206 69 [some (.ref 199), some (.int p1), some (.int p2), some (.int x3), u4, u5, some (.int x6), u7] [] (g_M s ex) rr := by
  unfold f206_69 at H
  refine g_go 4 md_206 (i1 := 73) rfl ?_
  refine g_getf (n_q md_206 rfl) t_199 rfl ?_
  by_cases h1 : (x6 + 1) < (s 199 43)
  · rw [if_pos h1] at H
    refine n_cmpF (n_q md_206 rfl) (fun e1 => absurd (of_decide_eq_true e1) (Int32.not_le.mpr h1)) ?_
    refine g_go 2 md_206 (i1 := 77) (ls1 := [some (.ref 199), some (.int p1), some (.int p2), some (.int x3), u4, u5, some (.int x6), some (.int 0)]) rfl ?_
    exact P206_77L H hd K0 Kr
  · rw [if_neg h1] at H
    refine n_cmpT (n_q md_206 rfl) (decide_eq_true (Int32.not_lt.mp h1)) ?_
    obtain ⟨w, hw, H⟩ := g_mapp H
    subst H
    rw [← Kr _ rfl]
    exact P206_98 hw hd
noncomputable def f206_69L (s : g_S) (p1 : Int32) (p2 : Int32) (x3 : Int32) (x6 : Int32) : Option (Int32 × g_S) := g_run (fun S : Int32 × g_S => f206_69 S.2 p1 p2 x3 S.1) (x6, s)
theorem f206_69L_eq (s : g_S) (p1 : Int32) (p2 : Int32) (x3 : Int32) (x6 : Int32) : f206_69L s p1 p2 x3 x6 = g_st (f206_69 s p1 p2 x3 x6) (fun S => f206_69L S.2 p1 p2 x3 S.1) := by
  unfold f206_69L
  exact g_run_eq _ _
theorem P206_69L {d ex : Nat} {s : g_S} {p1 : Int32} {p2 : Int32} {x3 : Int32} {x6 : Int32} {u4 u5 u7 : Option Value}   {z : (Int32 × g_S)} (H : f206_69L s p1 p2 x3 x6 = some z) (hd : 13 ≤ d)  : n_R X (d + 1) 206 69 [some (.ref 199), some (.int p1), some (.int p2), some (.int x3), u4, u5, some (.int x6), u7] [] (g_M s ex) (g_rSI z ex) := by
  unfold f206_69L at H
  refine g_rs (Q := fun S => ∀ u4 u5 u7 : Option Value, n_R X (d + 1) 206 69 [some (.ref 199), some (.int p1), some (.int p2), some (.int x3), u4, u5, some (.int S.1), u7] [] (g_M S.2 ex) (g_rSI z ex)) H ?_ u4 u5 u7
  intro S w hb K0 KK u4 u5 u7
  refine P206_69 hb hd ?_ ?_
  · exact fun S1 e1 => K0 S1 e1
  · exact fun q e1 => by rw [KK q e1]
noncomputable def f206_59 (s : g_S) (p1 : Int32) (p2 : Int32) (x3 : Int32) (x5 : Int32) : Option (Int32 × g_S) := (if x3 = 5 then (if p2 = 0 then (f206_69L s p1 p2 x3 p1) else (g_let (g_w s 199 29 x5) fun s3 => f206_69L s3 p1 p2 x3 p1)) else (f206_69L s p1 p2 x3 p1))
theorem P206_59 {d ex : Nat} {s : g_S} {p1 : Int32} {p2 : Int32} {x3 : Int32} {x5 : Int32} {u4 u6 u7 : Option Value}   {z : (Int32 × g_S)} (H : f206_59 s p1 p2 x3 x5 = some z) (hd : 13 ≤ d)  : n_R X (d + 1) 206 59 [some (.ref 199), some (.int p1), some (.int p2), some (.int x3), u4, some (.int x5), u6, u7] [] (g_M s ex) (g_rSI z ex) := by
  unfold f206_59 at H
  refine g_go 2 md_206 (i1 := 61) rfl ?_
  by_cases h1 : x3 = 5
  · rw [if_pos h1] at H
    refine n_cmpF (n_q md_206 rfl) (fun e1 => of_decide_eq_true e1 h1) ?_
    refine g_go 1 md_206 (i1 := 63) rfl ?_
    by_cases h2 : p2 = 0
    · rw [if_pos h2] at H
      refine n_ifT (n_q md_206 rfl) (decide_eq_true h2) ?_
      refine g_go 2 md_206 (i1 := 69) (ls1 := [some (.ref 199), some (.int p1), some (.int p2), some (.int x3), u4, some (.int x5), some (.int p1), u7]) rfl ?_
      exact P206_69L H hd
    · rw [if_neg h2] at H
      refine n_ifF (n_q md_206 rfl) (fun e1 => h2 (of_decide_eq_true e1)) ?_
      refine g_go 2 md_206 (i1 := 66) rfl ?_
      obtain ⟨s3, es3, H⟩ := g_letp H
      refine g_putf (n_q md_206 rfl) t_199 rfl rfl es3 ?_
      refine g_go 2 md_206 (i1 := 69) (ls1 := [some (.ref 199), some (.int p1), some (.int p2), some (.int x3), u4, some (.int x5), some (.int p1), u7]) rfl ?_
      exact P206_69L H hd
  · rw [if_neg h1] at H
    refine n_cmpT (n_q md_206 rfl) (decide_eq_true h1) ?_
    refine g_go 2 md_206 (i1 := 69) (ls1 := [some (.ref 199), some (.int p1), some (.int p2), some (.int x3), u4, some (.int x5), some (.int p1), u7]) rfl ?_
    exact P206_69L H hd
noncomputable def f206_51 (s : g_S) (p1 : Int32) (p2 : Int32) (x3 : Int32) (x5 : Int32) : Option (Int32 × g_S) := (if x3 = 4 then (if p2 = 0 then (f206_59 s p1 p2 x3 x5) else (g_let (g_w s 199 28 x5) fun s3 => f206_59 s3 p1 p2 x3 x5)) else (f206_59 s p1 p2 x3 x5))
theorem P206_51 {d ex : Nat} {s : g_S} {p1 : Int32} {p2 : Int32} {x3 : Int32} {x5 : Int32} {u4 u6 u7 : Option Value}   {z : (Int32 × g_S)} (H : f206_51 s p1 p2 x3 x5 = some z) (hd : 13 ≤ d)  : n_R X (d + 1) 206 51 [some (.ref 199), some (.int p1), some (.int p2), some (.int x3), u4, some (.int x5), u6, u7] [] (g_M s ex) (g_rSI z ex) := by
  unfold f206_51 at H
  refine g_go 2 md_206 (i1 := 53) rfl ?_
  by_cases h1 : x3 = 4
  · rw [if_pos h1] at H
    refine n_cmpF (n_q md_206 rfl) (fun e1 => of_decide_eq_true e1 h1) ?_
    refine g_go 1 md_206 (i1 := 55) rfl ?_
    by_cases h2 : p2 = 0
    · rw [if_pos h2] at H
      refine n_ifT (n_q md_206 rfl) (decide_eq_true h2) ?_
      exact P206_59 H hd
    · rw [if_neg h2] at H
      refine n_ifF (n_q md_206 rfl) (fun e1 => h2 (of_decide_eq_true e1)) ?_
      refine g_go 2 md_206 (i1 := 58) rfl ?_
      obtain ⟨s3, es3, H⟩ := g_letp H
      refine g_putf (n_q md_206 rfl) t_199 rfl rfl es3 ?_
      exact P206_59 H hd
  · rw [if_neg h1] at H
    refine n_cmpT (n_q md_206 rfl) (decide_eq_true h1) ?_
    exact P206_59 H hd
noncomputable def f206_15 (s : g_S) (p1 : Int32) (p2 : Int32) (y1 : Int32) : Option (Int32 × g_S) := (g_bd (f134 s y1 1) fun v1 s2 => if v1 = 0 then (if m_in p1 8 = true then if (s2 (260 + p1.toNatClampNeg) 0) < 4 then (if m_in (s2 (260 + p1.toNatClampNeg) 1) 13 = true then if m_in (s2 (260 + p1.toNatClampNeg) 0) 4 = true then if m_isb p2 = true then g_let (g_w s2 (225 + (s2 (260 + p1.toNatClampNeg) 1).toNatClampNeg) (s2 (260 + p1.toNatClampNeg) 0).toNatClampNeg p2) fun s9 => f206_51 s9 p1 p2 (s2 (260 + p1.toNatClampNeg) 0) (s2 (260 + p1.toNatClampNeg) 2) else none else none else none) else (f206_51 s2 p1 p2 (s2 (260 + p1.toNatClampNeg) 0) (s2 (260 + p1.toNatClampNeg) 2)) else none) else (some ((0, s2))))
theorem P206_15 {d ex : Nat} {s : g_S} {p1 : Int32} {p2 : Int32} {y1 : Int32} {u3 u4 u5 u6 u7 : Option Value}   {z : (Int32 × g_S)} (H : f206_15 s p1 p2 y1 = some z) (hd : 13 ≤ d)  : n_R X (d + 1) 206 15 [some (.ref 199), some (.int p1), some (.int p2), u3, u4, u5, u6, u7] [.int y1, .ref 199] (g_M s ex) (g_rSI z ex) := by
  unfold f206_15 at H
  refine g_go 1 md_206 (i1 := 16) rfl ?_
  obtain ⟨v1, s2, hv1, H⟩ := g_bdp H
  refine n_callv (n_q md_206 rfl) (As := [.ref 199, .int y1, .int 1]) (rest := []) rfl rfl (Nat.le_of_ble_eq_true rfl) rfl (g_recv (b := 0) rfl t_199 rfl) (C134 (by omega) hv1) ?_
  by_cases h3 : v1 = 0
  · rw [if_pos h3] at H
    refine n_ifT (n_q md_206 rfl) (decide_eq_true h3) ?_
    refine g_go 1 md_206 (i1 := 21) rfl ?_
    refine g_getr 259 (n_q md_206 rfl) t_199 rfl ?_
    refine g_go 1 md_206 (i1 := 23) rfl ?_
    obtain ⟨h4, H⟩ := g_gd H
    refine g_aald (n_q md_206 rfl) ta_259 (by decide) h4 (g_range (g_inlt h4)) ?_
    refine g_go 1 md_206 (i1 := 25) rfl ?_
    refine g_iald (n_q md_206 rfl) (te_259 (g_inlt h4)) (rfl : m_in 0 3 = true) ?_
    refine g_go 2 md_206 (i1 := 28) (ls1 := [some (.ref 199), some (.int p1), some (.int p2), some (.int (s2 (260 + p1.toNatClampNeg) 0)), u4, u5, u6, u7]) rfl ?_
    refine g_getr 259 (n_q md_206 rfl) t_199 rfl ?_
    refine g_go 1 md_206 (i1 := 30) rfl ?_
    refine g_aald (n_q md_206 rfl) ta_259 (by decide) h4 (g_range (g_inlt h4)) ?_
    refine g_go 1 md_206 (i1 := 32) rfl ?_
    refine g_iald (n_q md_206 rfl) (te_259 (g_inlt h4)) (rfl : m_in 1 3 = true) ?_
    refine g_go 2 md_206 (i1 := 35) (ls1 := [some (.ref 199), some (.int p1), some (.int p2), some (.int (s2 (260 + p1.toNatClampNeg) 0)), some (.int (s2 (260 + p1.toNatClampNeg) 1)), u5, u6, u7]) rfl ?_
    refine g_getr 259 (n_q md_206 rfl) t_199 rfl ?_
    refine g_go 1 md_206 (i1 := 37) rfl ?_
    refine g_aald (n_q md_206 rfl) ta_259 (by decide) h4 (g_range (g_inlt h4)) ?_
    refine g_go 1 md_206 (i1 := 39) rfl ?_
    refine g_iald (n_q md_206 rfl) (te_259 (g_inlt h4)) (rfl : m_in 2 3 = true) ?_
    refine g_go 3 md_206 (i1 := 43) (ls1 := [some (.ref 199), some (.int p1), some (.int p2), some (.int (s2 (260 + p1.toNatClampNeg) 0)), some (.int (s2 (260 + p1.toNatClampNeg) 1)), some (.int (s2 (260 + p1.toNatClampNeg) 2)), u6, u7]) rfl ?_
    by_cases h5 : (s2 (260 + p1.toNatClampNeg) 0) < 4
    · rw [if_pos h5] at H
      refine n_cmpF (n_q md_206 rfl) (fun e1 => absurd (of_decide_eq_true e1) (Int32.not_le.mpr h5)) ?_
      refine g_go 1 md_206 (i1 := 45) rfl ?_
      refine g_getr 224 (n_q md_206 rfl) t_199 rfl ?_
      refine g_go 1 md_206 (i1 := 47) rfl ?_
      obtain ⟨h6, H⟩ := g_gd H
      refine g_aald (n_q md_206 rfl) ta_224 (by decide) h6 (g_range (g_inlt h6)) ?_
      refine g_go 2 md_206 (i1 := 50) rfl ?_
      obtain ⟨h7, H⟩ := g_gd H
      obtain ⟨hb8, H⟩ := g_gd H
      obtain ⟨s9, es9, H⟩ := g_letp H
      refine g_bast (n_q md_206 rfl) (te_224 (g_inlt h6)) h7 hb8 es9 ?_
      exact P206_51 H hd
    · rw [if_neg h5] at H
      refine n_cmpT (n_q md_206 rfl) (decide_eq_true (Int32.not_lt.mp h5)) ?_
      exact P206_51 H hd
  · rw [if_neg h3] at H
    refine n_ifF (n_q md_206 rfl) (fun e1 => h3 (of_decide_eq_true e1)) ?_
    refine g_go 1 md_206 (i1 := 19) rfl ?_
    cases H
    exact n_iret (n_q md_206 rfl) (Or.inl rfl)
noncomputable def f206 (s : g_S) (p1 : Int32) (p2 : Int32) : Option (Int32 × g_S) := (g_let (g_w s 199 0 0) fun s1 => (f135 s1 p1 0 ((s1 199 43) - 1)).bind fun v2 => if v2 = 0 then (f206_15 s1 p1 p2 1) else (f206_15 s1 p1 p2 0))
theorem C206 {d ex : Nat} {s : g_S} {p1 : Int32} {p2 : Int32}  {z : Int32 × g_S} (hd : 13 < d) (H : f206 s p1 p2 = some z) : n_C X d 206 [.ref 199, .int p1, .int p2] (g_M s ex) (g_rSI z ex) := by
  obtain ⟨d, rfl⟩ : ∃ d1, d = d1 + 1 := ⟨d - 1, by omega⟩
  replace hd := Nat.le_of_lt_succ hd
  refine ⟨Nat.le_of_ble_eq_true rfl, ?_⟩
  rw [md_206]
  show n_R X (d + 1) 206 0 [some (.ref 199), some (.int p1), some (.int p2), none, none, none, none, none] [] (g_M s ex) _
  unfold f206 at H
  refine g_go 2 md_206 (i1 := 2) rfl ?_
  obtain ⟨s1, es1, H⟩ := g_letp H
  refine g_putf (n_q md_206 rfl) t_199 rfl rfl es1 ?_
  refine g_go 4 md_206 (i1 := 7) rfl ?_
  refine g_getf (n_q md_206 rfl) t_199 rfl ?_
  refine g_go 2 md_206 (i1 := 10) rfl ?_
  obtain ⟨v2, hv2, H⟩ := g_bind H
  refine n_callv (n_q md_206 rfl) (As := [.int p1, .int 0, .int ((s1 199 43) - 1)]) (rest := [.ref 199]) rfl rfl (Nat.le_of_ble_eq_true rfl) rfl rfl (C135 (by omega) hv2) ?_
  by_cases h3 : v2 = 0
  · rw [if_pos h3] at H
    refine n_ifF (n_q md_206 rfl) (fun e1 => of_decide_eq_true e1 h3) ?_
    refine g_go 2 md_206 (i1 := 15) rfl ?_
    exact P206_15 H hd
  · rw [if_neg h3] at H
    refine n_ifT (n_q md_206 rfl) (decide_eq_true h3) ?_
    refine g_go 1 md_206 (i1 := 15) rfl ?_
    exact P206_15 H hd

theorem md_207 : m_md 207 = m_X8_titleNow := rfl
noncomputable def f207_49 (s : g_S) (x1 : Int32) (x2 : Int32) : Option ((Int32 × Int32) ⊕ (Int32 × g_S)) := (if x2 = ((-1)) then (some (.inl (x1, x2))) else (some (.inl (x2, x2))))
theorem P207_49 {d ex : Nat} {rr : m_R} {s : g_S} {x1 : Int32} {x2 : Int32} {u3 : Option Value}   {z : ((Int32 × Int32) ⊕ (Int32 × g_S))} (H : f207_49 s x1 x2 = some z) (hd : 81 ≤ d) (K0 : ∀ S : Int32 × Int32, z = .inl S → ∀ u3 : Option Value, n_R X (d + 1) 207 8 [some (.ref 199), some (.int S.1), some (.int S.2), u3] [] (g_M s ex) rr) (Kr : ∀ q, z = .inr (q) → g_rSI q ex = rr) : n_R X (d + 1) 207 49 [some (.ref 199), some (.int x1), some (.int x2), u3] [] (g_M s ex) rr := by
  unfold f207_49 at H
  refine g_go 2 md_207 (i1 := 51) rfl ?_
  by_cases h1 : x2 = ((-1))
  · rw [if_pos h1] at H
    refine n_cmpF (n_q md_207 rfl) (fun e1 => of_decide_eq_true e1 h1) ?_
    refine g_go 4 md_207 (i1 := 8) (ls1 := [some (.ref 199), some (.int x1), some (.int x2), u3]) rfl ?_
    cases H
    exact K0 (x1, x2) rfl _
  · rw [if_neg h1] at H
    refine n_cmpT (n_q md_207 rfl) (decide_eq_true h1) ?_
    refine g_go 3 md_207 (i1 := 8) (ls1 := [some (.ref 199), some (.int x2), some (.int x2), u3]) rfl ?_
    cases H
    exact K0 (x2, x2) rfl _
noncomputable def f207_16 (s : g_S) (x1 : Int32) (x2 : Int32) (x3 : Int32) : Option ((Int32 × Int32) ⊕ ((Int32 × Int32) ⊕ (Int32 × g_S))) := (if 0 < x3 then (if m_in x3 13 = true then if (s 239 x3.toNatClampNeg) = x1 then (if 0 < (s 238 x3.toNatClampNeg) then (if (s 238 x3.toNatClampNeg) < (s 199 27) then (some (.inl (x2, x3 + (-1)))) else (if (s 240 x3.toNatClampNeg) = (s 238 x3.toNatClampNeg) then (some (.inl (x3, x3 + (-1)))) else (some (.inl (x2, x3 + (-1)))))) else (some (.inl (x2, x3 + (-1))))) else (some (.inl (x2, x3 + (-1)))) else none) else (Option.map (fun w => (.inr (w) : ((Int32 × Int32) ⊕ ((Int32 × Int32) ⊕ (Int32 × g_S))))) (f207_49 s x1 x2)))
theorem P207_16 {d ex : Nat} {rr : m_R} {s : g_S} {x1 : Int32} {x2 : Int32} {x3 : Int32}   {z : ((Int32 × Int32) ⊕ ((Int32 × Int32) ⊕ (Int32 × g_S)))} (H : f207_16 s x1 x2 x3 = some z) (hd : 81 ≤ d) (K0 : ∀ S : Int32 × Int32, z = .inl S → n_R X (d + 1) 207 16 [some (.ref 199), some (.int x1), some (.int S.1), some (.int S.2)] [] (g_M s ex) rr) (K1 : ∀ S : Int32 × Int32, z = .inr (.inl S) → ∀ u3 : Option Value, n_R X (d + 1) 207 8 [some (.ref 199), some (.int S.1), some (.int S.2), u3] [] (g_M s ex) rr) (Kr : ∀ q, z = .inr (.inr (q)) → g_rSI q ex = rr) : n_R X (d + 1) 207 16 [some (.ref 199), some (.int x1), some (.int x2), some (.int x3)] [] (g_M s ex) rr := by
  unfold f207_16 at H
  refine g_go 1 md_207 (i1 := 17) rfl ?_
  by_cases h1 : 0 < x3
  · rw [if_pos h1] at H
    refine n_ifF (n_q md_207 rfl) (fun e1 => absurd (of_decide_eq_true e1) (Int32.not_le.mpr h1)) ?_
    refine g_go 1 md_207 (i1 := 19) rfl ?_
    refine g_getr 239 (n_q md_207 rfl) t_199 rfl ?_
    refine g_go 1 md_207 (i1 := 21) rfl ?_
    obtain ⟨h2, H⟩ := g_gd H
    refine g_iald (n_q md_207 rfl) t_239 h2 ?_
    refine g_go 1 md_207 (i1 := 23) rfl ?_
    by_cases h3 : (s 239 x3.toNatClampNeg) = x1
    · rw [if_pos h3] at H
      refine n_cmpF (n_q md_207 rfl) (fun e1 => of_decide_eq_true e1 h3) ?_
      refine g_go 1 md_207 (i1 := 25) rfl ?_
      refine g_getr 238 (n_q md_207 rfl) t_199 rfl ?_
      refine g_go 1 md_207 (i1 := 27) rfl ?_
      refine g_iald (n_q md_207 rfl) t_238 h2 ?_
      by_cases h4 : 0 < (s 238 x3.toNatClampNeg)
      · rw [if_pos h4] at H
        refine n_ifF (n_q md_207 rfl) (fun e1 => absurd (of_decide_eq_true e1) (Int32.not_le.mpr h4)) ?_
        refine g_go 1 md_207 (i1 := 30) rfl ?_
        refine g_getr 238 (n_q md_207 rfl) t_199 rfl ?_
        refine g_go 1 md_207 (i1 := 32) rfl ?_
        refine g_iald (n_q md_207 rfl) t_238 h2 ?_
        refine g_go 1 md_207 (i1 := 34) rfl ?_
        refine g_getf (n_q md_207 rfl) t_199 rfl ?_
        by_cases h5 : (s 238 x3.toNatClampNeg) < (s 199 27)
        · rw [if_pos h5] at H
          refine n_cmpT (n_q md_207 rfl) (decide_eq_true h5) ?_
          refine g_go 2 md_207 (i1 := 16) (ls1 := [some (.ref 199), some (.int x1), some (.int x2), some (.int (x3 + (-1)))]) rfl ?_
          cases H
          exact K0 (x2, x3 + (-1)) rfl
        · rw [if_neg h5] at H
          refine n_cmpF (n_q md_207 rfl) (fun e1 => h5 (of_decide_eq_true e1)) ?_
          refine g_go 1 md_207 (i1 := 37) rfl ?_
          refine g_getr 240 (n_q md_207 rfl) t_199 rfl ?_
          refine g_go 1 md_207 (i1 := 39) rfl ?_
          refine g_iald (n_q md_207 rfl) t_240 h2 ?_
          refine g_go 1 md_207 (i1 := 41) rfl ?_
          refine g_getr 238 (n_q md_207 rfl) t_199 rfl ?_
          refine g_go 1 md_207 (i1 := 43) rfl ?_
          refine g_iald (n_q md_207 rfl) t_238 h2 ?_
          by_cases h6 : (s 240 x3.toNatClampNeg) = (s 238 x3.toNatClampNeg)
          · rw [if_pos h6] at H
            refine n_cmpF (n_q md_207 rfl) (fun e1 => of_decide_eq_true e1 h6) ?_
            refine g_go 4 md_207 (i1 := 16) (ls1 := [some (.ref 199), some (.int x1), some (.int x3), some (.int (x3 + (-1)))]) rfl ?_
            cases H
            exact K0 (x3, x3 + (-1)) rfl
          · rw [if_neg h6] at H
            refine n_cmpT (n_q md_207 rfl) (decide_eq_true h6) ?_
            refine g_go 2 md_207 (i1 := 16) (ls1 := [some (.ref 199), some (.int x1), some (.int x2), some (.int (x3 + (-1)))]) rfl ?_
            cases H
            exact K0 (x2, x3 + (-1)) rfl
      · rw [if_neg h4] at H
        refine n_ifT (n_q md_207 rfl) (decide_eq_true (Int32.not_lt.mp h4)) ?_
        refine g_go 2 md_207 (i1 := 16) (ls1 := [some (.ref 199), some (.int x1), some (.int x2), some (.int (x3 + (-1)))]) rfl ?_
        cases H
        exact K0 (x2, x3 + (-1)) rfl
    · rw [if_neg h3] at H
      refine n_cmpT (n_q md_207 rfl) (decide_eq_true h3) ?_
      refine g_go 2 md_207 (i1 := 16) (ls1 := [some (.ref 199), some (.int x1), some (.int x2), some (.int (x3 + (-1)))]) rfl ?_
      cases H
      exact K0 (x2, x3 + (-1)) rfl
  · rw [if_neg h1] at H
    refine n_ifT (n_q md_207 rfl) (decide_eq_true (Int32.not_lt.mp h1)) ?_
    obtain ⟨w, hw, H⟩ := g_mapp H
    subst H
    exact P207_49 hw hd (fun S1 e1 => K1 S1 (by rw [e1])) (fun q e1 => Kr q (by rw [e1]))
noncomputable def f207_16L (s : g_S) (x1 : Int32) (x2 : Int32) (x3 : Int32) : Option ((Int32 × Int32) ⊕ (Int32 × g_S)) := g_run (fun S : Int32 × Int32 => f207_16 s x1 S.1 S.2) (x2, x3)
theorem f207_16L_eq (s : g_S) (x1 : Int32) (x2 : Int32) (x3 : Int32) : f207_16L s x1 x2 x3 = g_st (f207_16 s x1 x2 x3) (fun S => f207_16L s x1 S.1 S.2) := by
  unfold f207_16L
  exact g_run_eq _ _
theorem P207_16L {d ex : Nat} {rr : m_R} {s : g_S} {x1 : Int32} {x2 : Int32} {x3 : Int32}   {z : ((Int32 × Int32) ⊕ (Int32 × g_S))} (H : f207_16L s x1 x2 x3 = some z) (hd : 81 ≤ d) (K0 : ∀ S : Int32 × Int32, z = .inl S → ∀ u3 : Option Value, n_R X (d + 1) 207 8 [some (.ref 199), some (.int S.1), some (.int S.2), u3] [] (g_M s ex) rr) (Kr : ∀ q, z = .inr (q) → g_rSI q ex = rr) : n_R X (d + 1) 207 16 [some (.ref 199), some (.int x1), some (.int x2), some (.int x3)] [] (g_M s ex) rr := by
  unfold f207_16L at H
  have KO0 := K0
  have KOr := Kr
  refine g_rs (Q := fun S => n_R X (d + 1) 207 16 [some (.ref 199), some (.int x1), some (.int S.1), some (.int S.2)] [] (g_M s ex) rr) H ?_
  intro S w hb K0 KK
  refine P207_16 hb hd ?_ ?_ ?_
  · exact fun S1 e1 => K0 S1 e1
  · exact fun S1 e1 => KO0 S1 (KK _ e1).symm
  · exact fun q e1 => KOr q (KK _ e1).symm
noncomputable def f207_8 (s : g_S) (x1 : Int32) (x2 : Int32) : Option ((Int32 × Int32) ⊕ (Int32 × g_S)) := (if x2 = ((-1)) then (some (.inr ((x1, s)))) else (f207_16L s x1 ((-1)) (s 199 34)))
theorem P207_8 {d ex : Nat} {rr : m_R} {s : g_S} {x1 : Int32} {x2 : Int32} {u3 : Option Value}   {z : ((Int32 × Int32) ⊕ (Int32 × g_S))} (H : f207_8 s x1 x2 = some z) (hd : 81 ≤ d) (K0 : ∀ S : Int32 × Int32, z = .inl S → ∀ u3 : Option Value, n_R X (d + 1) 207 8 [some (.ref 199), some (.int S.1), some (.int S.2), u3] [] (g_M s ex) rr) (Kr : ∀ q, z = .inr (q) → g_rSI q ex = rr) : n_R X (d + 1) 207 8 [some (.ref 199), some (.int x1), some (.int x2), u3] [] (g_M s ex) rr := by
  unfold f207_8 at H
  refine g_go 2 md_207 (i1 := 10) rfl ?_
  by_cases h1 : x2 = ((-1))
  · rw [if_pos h1] at H
    refine n_cmpT (n_q md_207 rfl) (decide_eq_true h1) ?_
    refine g_go 1 md_207 (i1 := 58) rfl ?_
    cases H
    rw [← Kr _ rfl]
    exact n_iret (n_q md_207 rfl) (Or.inl rfl)
  · rw [if_neg h1] at H
    refine n_cmpF (n_q md_207 rfl) (fun e1 => h1 (of_decide_eq_true e1)) ?_
    refine g_go 3 md_207 (i1 := 14) (ls1 := [some (.ref 199), some (.int x1), some (.int ((-1))), u3]) rfl ?_
    refine g_getf (n_q md_207 rfl) t_199 rfl ?_
    refine g_go 1 md_207 (i1 := 16) (ls1 := [some (.ref 199), some (.int x1), some (.int ((-1))), some (.int (s 199 34))]) rfl ?_
    exact P207_16L H hd K0 Kr
noncomputable def f207_8L (s : g_S) (x1 : Int32) (x2 : Int32) : Option (Int32 × g_S) := g_run (fun S : Int32 × Int32 => f207_8 s S.1 S.2) (x1, x2)
theorem f207_8L_eq (s : g_S) (x1 : Int32) (x2 : Int32) : f207_8L s x1 x2 = g_st (f207_8 s x1 x2) (fun S => f207_8L s S.1 S.2) := by
  unfold f207_8L
  exact g_run_eq _ _
theorem P207_8L {d ex : Nat} {s : g_S} {x1 : Int32} {x2 : Int32} {u3 : Option Value}   {z : (Int32 × g_S)} (H : f207_8L s x1 x2 = some z) (hd : 81 ≤ d)  : n_R X (d + 1) 207 8 [some (.ref 199), some (.int x1), some (.int x2), u3] [] (g_M s ex) (g_rSI z ex) := by
  unfold f207_8L at H
  refine g_rs (Q := fun S => ∀ u3 : Option Value, n_R X (d + 1) 207 8 [some (.ref 199), some (.int S.1), some (.int S.2), u3] [] (g_M s ex) (g_rSI z ex)) H ?_ u3
  intro S w hb K0 KK u3
  refine P207_8 hb hd ?_ ?_
  · exact fun S1 e1 => K0 S1 e1
  · exact fun q e1 => by rw [KK q e1]
noncomputable def f207 (s : g_S) : Option (Int32 × g_S) := ((f182 s (s 199 13)).bind fun s2 => f207_8L s2 0 0)
theorem C207 {d ex : Nat} {s : g_S}  {z : Int32 × g_S} (hd : 81 < d) (H : f207 s = some z) : n_C X d 207 [.ref 199] (g_M s ex) (g_rSI z ex) := by
  obtain ⟨d, rfl⟩ : ∃ d1, d = d1 + 1 := ⟨d - 1, by omega⟩
  replace hd := Nat.le_of_lt_succ hd
  refine ⟨Nat.le_of_ble_eq_true rfl, ?_⟩
  rw [md_207]
  show n_R X (d + 1) 207 0 [some (.ref 199), none, none, none] [] (g_M s ex) _
  unfold f207 at H
  refine g_go 2 md_207 (i1 := 2) rfl ?_
  refine g_getf (n_q md_207 rfl) t_199 rfl ?_
  obtain ⟨s2, hs2, H⟩ := g_bind H
  refine n_call (n_q md_207 rfl) (As := [.ref 199, .int (s 199 13)]) (rest := []) rfl rfl (Nat.le_of_ble_eq_true rfl) rfl (g_recv (b := 0) rfl t_199 rfl) (C182 (by omega) hs2) ?_
  refine g_go 4 md_207 (i1 := 8) (ls1 := [some (.ref 199), some (.int 0), some (.int 0), none]) rfl ?_
  exact P207_8L H hd

theorem md_208 : m_md 208 = m_X8_title := rfl
noncomputable def f208 (s : g_S) : Option (Int32 × g_S) := (g_let (g_w s 199 0 0) fun s1 => g_bd (f207 s1) fun v2 s3 => some ((v2, s3)))
theorem C208 {d ex : Nat} {s : g_S}  {z : Int32 × g_S} (hd : 82 < d) (H : f208 s = some z) : n_C X d 208 [.ref 199] (g_M s ex) (g_rSI z ex) := by
  obtain ⟨d, rfl⟩ : ∃ d1, d = d1 + 1 := ⟨d - 1, by omega⟩
  replace hd := Nat.le_of_lt_succ hd
  refine ⟨Nat.le_of_ble_eq_true rfl, ?_⟩
  rw [md_208]
  show n_R X (d + 1) 208 0 [some (.ref 199)] [] (g_M s ex) _
  unfold f208 at H
  refine g_go 2 md_208 (i1 := 2) rfl ?_
  obtain ⟨s1, es1, H⟩ := g_letp H
  refine g_putf (n_q md_208 rfl) t_199 rfl rfl es1 ?_
  refine g_go 1 md_208 (i1 := 4) rfl ?_
  obtain ⟨v2, s3, hv2, H⟩ := g_bdp H
  refine n_callv (n_q md_208 rfl) (As := [.ref 199]) (rest := []) rfl rfl (Nat.le_of_ble_eq_true rfl) rfl (g_recv (b := 0) rfl t_199 rfl) (C207 (by omega) hv2) ?_
  cases H
  exact n_iret (n_q md_208 rfl) (Or.inl rfl)

theorem md_209 : m_md 209 = m_X8_found := rfl
noncomputable def f209_23 (s : g_S) (p1 : Int32) (p2 : Int32) (y1 : Int32) : Option (Int32 × g_S) := (g_bd (f134 s y1 2) fun v1 s2 => if v1 = 0 then (g_bd (f207 s2) fun v4 s5 => if v4 = p1 then (if 0 < p1 then (if m_in p1 13 = true then if (s5 244 p1.toNatClampNeg) = 0 then (some ((p2, s5))) else (if (s5 243 p1.toNatClampNeg) = 0 then (some ((p2, s5))) else (if (s5 (225 + p1.toNatClampNeg) 3) = 0 then (some ((2 * p2, s5))) else (some ((p2, s5))))) else none) else (some ((p2, s5)))) else (some ((0, s5)))) else (some ((0, s2))))
theorem P209_23 {d ex : Nat} {s : g_S} {p1 : Int32} {p2 : Int32} {y1 : Int32}   {z : (Int32 × g_S)} (H : f209_23 s p1 p2 y1 = some z) (hd : 82 ≤ d)  : n_R X (d + 1) 209 23 [some (.ref 199), some (.int p1), some (.int p2)] [.int y1, .ref 199] (g_M s ex) (g_rSI z ex) := by
  unfold f209_23 at H
  refine g_go 1 md_209 (i1 := 24) rfl ?_
  obtain ⟨v1, s2, hv1, H⟩ := g_bdp H
  refine n_callv (n_q md_209 rfl) (As := [.ref 199, .int y1, .int 2]) (rest := []) rfl rfl (Nat.le_of_ble_eq_true rfl) rfl (g_recv (b := 0) rfl t_199 rfl) (C134 (by omega) hv1) ?_
  by_cases h3 : v1 = 0
  · rw [if_pos h3] at H
    refine n_ifT (n_q md_209 rfl) (decide_eq_true h3) ?_
    refine g_go 1 md_209 (i1 := 29) rfl ?_
    obtain ⟨v4, s5, hv4, H⟩ := g_bdp H
    refine n_callv (n_q md_209 rfl) (As := [.ref 199]) (rest := []) rfl rfl (Nat.le_of_ble_eq_true rfl) rfl (g_recv (b := 0) rfl t_199 rfl) (C207 (by omega) hv4) ?_
    refine g_go 1 md_209 (i1 := 31) rfl ?_
    by_cases h6 : v4 = p1
    · rw [if_pos h6] at H
      refine n_cmpT (n_q md_209 rfl) (decide_eq_true h6) ?_
      refine g_go 1 md_209 (i1 := 35) rfl ?_
      by_cases h7 : 0 < p1
      · rw [if_pos h7] at H
        refine n_ifF (n_q md_209 rfl) (fun e1 => absurd (of_decide_eq_true e1) (Int32.not_le.mpr h7)) ?_
        refine g_go 1 md_209 (i1 := 37) rfl ?_
        refine g_getr 244 (n_q md_209 rfl) t_199 rfl ?_
        refine g_go 1 md_209 (i1 := 39) rfl ?_
        obtain ⟨h8, H⟩ := g_gd H
        refine g_bald (n_q md_209 rfl) t_244 h8 ?_
        by_cases h9 : (s5 244 p1.toNatClampNeg) = 0
        · rw [if_pos h9] at H
          refine n_ifT (n_q md_209 rfl) (decide_eq_true h9) ?_
          refine g_go 1 md_209 (i1 := 58) rfl ?_
          cases H
          exact n_iret (n_q md_209 rfl) (Or.inl rfl)
        · rw [if_neg h9] at H
          refine n_ifF (n_q md_209 rfl) (fun e1 => h9 (of_decide_eq_true e1)) ?_
          refine g_go 1 md_209 (i1 := 42) rfl ?_
          refine g_getr 243 (n_q md_209 rfl) t_199 rfl ?_
          refine g_go 1 md_209 (i1 := 44) rfl ?_
          refine g_bald (n_q md_209 rfl) t_243 h8 ?_
          by_cases h10 : (s5 243 p1.toNatClampNeg) = 0
          · rw [if_pos h10] at H
            refine n_ifT (n_q md_209 rfl) (decide_eq_true h10) ?_
            refine g_go 1 md_209 (i1 := 58) rfl ?_
            cases H
            exact n_iret (n_q md_209 rfl) (Or.inl rfl)
          · rw [if_neg h10] at H
            refine n_ifF (n_q md_209 rfl) (fun e1 => h10 (of_decide_eq_true e1)) ?_
            refine g_go 1 md_209 (i1 := 47) rfl ?_
            refine g_getr 224 (n_q md_209 rfl) t_199 rfl ?_
            refine g_go 1 md_209 (i1 := 49) rfl ?_
            refine g_aald (n_q md_209 rfl) ta_224 (by decide) h8 (g_range (g_inlt h8)) ?_
            refine g_go 1 md_209 (i1 := 51) rfl ?_
            refine g_bald (n_q md_209 rfl) (te_224 (g_inlt h8)) (rfl : m_in 3 4 = true) ?_
            by_cases h11 : (s5 (225 + p1.toNatClampNeg) 3) = 0
            · rw [if_pos h11] at H
              refine n_ifF (n_q md_209 rfl) (fun e1 => of_decide_eq_true e1 h11) ?_
              refine g_go 4 md_209 (i1 := 58) rfl ?_
              cases H
              exact n_iret (n_q md_209 rfl) (Or.inl rfl)
            · rw [if_neg h11] at H
              refine n_ifT (n_q md_209 rfl) (decide_eq_true h11) ?_
              refine g_go 1 md_209 (i1 := 58) rfl ?_
              cases H
              exact n_iret (n_q md_209 rfl) (Or.inl rfl)
      · rw [if_neg h7] at H
        refine n_ifT (n_q md_209 rfl) (decide_eq_true (Int32.not_lt.mp h7)) ?_
        refine g_go 1 md_209 (i1 := 58) rfl ?_
        cases H
        exact n_iret (n_q md_209 rfl) (Or.inl rfl)
    · rw [if_neg h6] at H
      refine n_cmpF (n_q md_209 rfl) (fun e1 => h6 (of_decide_eq_true e1)) ?_
      refine g_go 1 md_209 (i1 := 33) rfl ?_
      cases H
      exact n_iret (n_q md_209 rfl) (Or.inl rfl)
  · rw [if_neg h3] at H
    refine n_ifF (n_q md_209 rfl) (fun e1 => h3 (of_decide_eq_true e1)) ?_
    refine g_go 1 md_209 (i1 := 27) rfl ?_
    cases H
    exact n_iret (n_q md_209 rfl) (Or.inl rfl)
noncomputable def f209_11 (s : g_S) (p1 : Int32) (p2 : Int32) (y1 : Int32) : Option (Int32 × g_S) := (g_bd (f134 s y1 1) fun v1 s2 => if v1 = 0 then ((f135 s2 p2 0 9999).bind fun v4 => if v4 = 0 then (f209_23 s2 p1 p2 1) else (f209_23 s2 p1 p2 0)) else (some ((0, s2))))
theorem P209_11 {d ex : Nat} {s : g_S} {p1 : Int32} {p2 : Int32} {y1 : Int32}   {z : (Int32 × g_S)} (H : f209_11 s p1 p2 y1 = some z) (hd : 82 ≤ d)  : n_R X (d + 1) 209 11 [some (.ref 199), some (.int p1), some (.int p2)] [.int y1, .ref 199] (g_M s ex) (g_rSI z ex) := by
  unfold f209_11 at H
  refine g_go 1 md_209 (i1 := 12) rfl ?_
  obtain ⟨v1, s2, hv1, H⟩ := g_bdp H
  refine n_callv (n_q md_209 rfl) (As := [.ref 199, .int y1, .int 1]) (rest := []) rfl rfl (Nat.le_of_ble_eq_true rfl) rfl (g_recv (b := 0) rfl t_199 rfl) (C134 (by omega) hv1) ?_
  by_cases h3 : v1 = 0
  · rw [if_pos h3] at H
    refine n_ifF (n_q md_209 rfl) (fun e1 => of_decide_eq_true e1 h3) ?_
    refine g_go 4 md_209 (i1 := 18) rfl ?_
    obtain ⟨v4, hv4, H⟩ := g_bind H
    refine n_callv (n_q md_209 rfl) (As := [.int p2, .int 0, .int 9999]) (rest := [.ref 199]) rfl rfl (Nat.le_of_ble_eq_true rfl) rfl rfl (C135 (by omega) hv4) ?_
    by_cases h5 : v4 = 0
    · rw [if_pos h5] at H
      refine n_ifF (n_q md_209 rfl) (fun e1 => of_decide_eq_true e1 h5) ?_
      refine g_go 2 md_209 (i1 := 23) rfl ?_
      exact P209_23 H hd
    · rw [if_neg h5] at H
      refine n_ifT (n_q md_209 rfl) (decide_eq_true h5) ?_
      refine g_go 1 md_209 (i1 := 23) rfl ?_
      exact P209_23 H hd
  · rw [if_neg h3] at H
    refine n_ifT (n_q md_209 rfl) (decide_eq_true h3) ?_
    refine g_go 1 md_209 (i1 := 27) rfl ?_
    cases H
    exact n_iret (n_q md_209 rfl) (Or.inl rfl)
noncomputable def f209 (s : g_S) (p1 : Int32) (p2 : Int32) : Option (Int32 × g_S) := (g_let (g_w s 199 0 0) fun s1 => (f173 s1 p1).bind fun v2 => if v2 = 0 then (f209_11 s1 p1 p2 1) else (f209_11 s1 p1 p2 0))
theorem C209 {d ex : Nat} {s : g_S} {p1 : Int32} {p2 : Int32}  {z : Int32 × g_S} (hd : 82 < d) (H : f209 s p1 p2 = some z) : n_C X d 209 [.ref 199, .int p1, .int p2] (g_M s ex) (g_rSI z ex) := by
  obtain ⟨d, rfl⟩ : ∃ d1, d = d1 + 1 := ⟨d - 1, by omega⟩
  replace hd := Nat.le_of_lt_succ hd
  refine ⟨Nat.le_of_ble_eq_true rfl, ?_⟩
  rw [md_209]
  show n_R X (d + 1) 209 0 [some (.ref 199), some (.int p1), some (.int p2)] [] (g_M s ex) _
  unfold f209 at H
  refine g_go 2 md_209 (i1 := 2) rfl ?_
  obtain ⟨s1, es1, H⟩ := g_letp H
  refine g_putf (n_q md_209 rfl) t_199 rfl rfl es1 ?_
  refine g_go 3 md_209 (i1 := 6) rfl ?_
  obtain ⟨v2, hv2, H⟩ := g_bind H
  refine n_callv (n_q md_209 rfl) (As := [.ref 199, .int p1]) (rest := [.ref 199]) rfl rfl (Nat.le_of_ble_eq_true rfl) rfl (g_recv (b := 0) rfl t_199 rfl) (C173 (by omega) hv2) ?_
  by_cases h3 : v2 = 0
  · rw [if_pos h3] at H
    refine n_ifF (n_q md_209 rfl) (fun e1 => of_decide_eq_true e1 h3) ?_
    refine g_go 2 md_209 (i1 := 11) rfl ?_
    exact P209_11 H hd
  · rw [if_neg h3] at H
    refine n_ifT (n_q md_209 rfl) (decide_eq_true h3) ?_
    refine g_go 1 md_209 (i1 := 11) rfl ?_
    exact P209_11 H hd

theorem md_210 : m_md 210 = m_X8_put := rfl
noncomputable def f210_17 (s : g_S) (p1 : Int32) (p2 : Int32) (y1 : Int32) : Option (Int32 × g_S) := (g_bd (f134 s y1 1) fun v1 s2 => if v1 = 0 then (if (s2 199 49) = 20 then (some (((-1), s2))) else (if m_in (s2 199 49) 20 = true then g_let (g_w s2 (540 + (s2 199 49).toNatClampNeg) 0 p1) fun s6 => if m_in (s6 199 49) 20 = true then g_let (g_w s6 (540 + (s6 199 49).toNatClampNeg) 1 p2) fun s8 => g_let (g_w s8 199 49 ((s8 199 49) + 1)) fun s9 => g_let (g_w s9 199 50 ((s9 199 50) + p2)) fun s10 => some ((s10 199 50, s10)) else none else none)) else (some ((0, s2))))
theorem P210_17 {d ex : Nat} {s : g_S} {p1 : Int32} {p2 : Int32} {y1 : Int32}   {z : (Int32 × g_S)} (H : f210_17 s p1 p2 y1 = some z) (hd : 13 ≤ d)  : n_R X (d + 1) 210 17 [some (.ref 199), some (.int p1), some (.int p2)] [.int y1, .ref 199] (g_M s ex) (g_rSI z ex) := by
  unfold f210_17 at H
  refine g_go 1 md_210 (i1 := 18) rfl ?_
  obtain ⟨v1, s2, hv1, H⟩ := g_bdp H
  refine n_callv (n_q md_210 rfl) (As := [.ref 199, .int y1, .int 1]) (rest := []) rfl rfl (Nat.le_of_ble_eq_true rfl) rfl (g_recv (b := 0) rfl t_199 rfl) (C134 (by omega) hv1) ?_
  by_cases h3 : v1 = 0
  · rw [if_pos h3] at H
    refine n_ifT (n_q md_210 rfl) (decide_eq_true h3) ?_
    refine g_go 1 md_210 (i1 := 23) rfl ?_
    refine g_getf (n_q md_210 rfl) t_199 rfl ?_
    refine g_go 1 md_210 (i1 := 25) rfl ?_
    by_cases h4 : (s2 199 49) = 20
    · rw [if_pos h4] at H
      refine n_cmpF (n_q md_210 rfl) (fun e1 => of_decide_eq_true e1 h4) ?_
      refine g_go 1 md_210 (i1 := 27) rfl ?_
      cases H
      exact n_iret (n_q md_210 rfl) (Or.inl rfl)
    · rw [if_neg h4] at H
      refine n_cmpT (n_q md_210 rfl) (decide_eq_true h4) ?_
      refine g_go 1 md_210 (i1 := 29) rfl ?_
      refine g_getr 539 (n_q md_210 rfl) t_199 rfl ?_
      refine g_go 1 md_210 (i1 := 31) rfl ?_
      refine g_getf (n_q md_210 rfl) t_199 rfl ?_
      obtain ⟨h5, H⟩ := g_gd H
      refine g_aald (n_q md_210 rfl) ta_539 (by decide) h5 (g_range (g_inlt h5)) ?_
      refine g_go 2 md_210 (i1 := 35) rfl ?_
      obtain ⟨s6, es6, H⟩ := g_letp H
      refine g_iast (n_q md_210 rfl) (te_539 (g_inlt h5)) (rfl : m_in 0 2 = true) es6 ?_
      refine g_go 1 md_210 (i1 := 37) rfl ?_
      refine g_getr 539 (n_q md_210 rfl) t_199 rfl ?_
      refine g_go 1 md_210 (i1 := 39) rfl ?_
      refine g_getf (n_q md_210 rfl) t_199 rfl ?_
      obtain ⟨h7, H⟩ := g_gd H
      refine g_aald (n_q md_210 rfl) ta_539 (by decide) h7 (g_range (g_inlt h7)) ?_
      refine g_go 2 md_210 (i1 := 43) rfl ?_
      obtain ⟨s8, es8, H⟩ := g_letp H
      refine g_iast (n_q md_210 rfl) (te_539 (g_inlt h7)) (rfl : m_in 1 2 = true) es8 ?_
      refine g_go 2 md_210 (i1 := 46) rfl ?_
      refine g_getf (n_q md_210 rfl) t_199 rfl ?_
      refine g_go 2 md_210 (i1 := 49) rfl ?_
      obtain ⟨s9, es9, H⟩ := g_letp H
      refine g_putf (n_q md_210 rfl) t_199 rfl rfl es9 ?_
      refine g_go 2 md_210 (i1 := 52) rfl ?_
      refine g_getf (n_q md_210 rfl) t_199 rfl ?_
      refine g_go 2 md_210 (i1 := 55) rfl ?_
      obtain ⟨s10, es10, H⟩ := g_letp H
      refine g_putf (n_q md_210 rfl) t_199 rfl rfl es10 ?_
      refine g_go 1 md_210 (i1 := 57) rfl ?_
      refine g_getf (n_q md_210 rfl) t_199 rfl ?_
      cases H
      exact n_iret (n_q md_210 rfl) (Or.inl rfl)
  · rw [if_neg h3] at H
    refine n_ifF (n_q md_210 rfl) (fun e1 => h3 (of_decide_eq_true e1)) ?_
    refine g_go 1 md_210 (i1 := 21) rfl ?_
    cases H
    exact n_iret (n_q md_210 rfl) (Or.inl rfl)
noncomputable def f210_14 (s : g_S) (p1 : Int32) (p2 : Int32) : Option (Int32 × g_S) := (f210_17 s p1 p2 1)
theorem P210_14 {d ex : Nat} {s : g_S} {p1 : Int32} {p2 : Int32}   {z : (Int32 × g_S)} (H : f210_14 s p1 p2 = some z) (hd : 13 ≤ d)  : n_R X (d + 1) 210 14 [some (.ref 199), some (.int p1), some (.int p2)] [.ref 199] (g_M s ex) (g_rSI z ex) := by
  unfold f210_14 at H
  refine g_go 2 md_210 (i1 := 17) rfl ?_
  exact P210_17 H hd
noncomputable def f210 (s : g_S) (p1 : Int32) (p2 : Int32) : Option (Int32 × g_S) := (g_let (g_w s 199 0 0) fun s1 => (f135 s1 p1 0 5).bind fun v2 => if v2 = 0 then (f210_14 s1 p1 p2) else ((f135 s1 p2 0 999).bind fun v4 => if v4 = 0 then (f210_14 s1 p1 p2) else (f210_17 s1 p1 p2 0)))
theorem C210 {d ex : Nat} {s : g_S} {p1 : Int32} {p2 : Int32}  {z : Int32 × g_S} (hd : 13 < d) (H : f210 s p1 p2 = some z) : n_C X d 210 [.ref 199, .int p1, .int p2] (g_M s ex) (g_rSI z ex) := by
  obtain ⟨d, rfl⟩ : ∃ d1, d = d1 + 1 := ⟨d - 1, by omega⟩
  replace hd := Nat.le_of_lt_succ hd
  refine ⟨Nat.le_of_ble_eq_true rfl, ?_⟩
  rw [md_210]
  show n_R X (d + 1) 210 0 [some (.ref 199), some (.int p1), some (.int p2)] [] (g_M s ex) _
  unfold f210 at H
  refine g_go 2 md_210 (i1 := 2) rfl ?_
  obtain ⟨s1, es1, H⟩ := g_letp H
  refine g_putf (n_q md_210 rfl) t_199 rfl rfl es1 ?_
  refine g_go 4 md_210 (i1 := 7) rfl ?_
  obtain ⟨v2, hv2, H⟩ := g_bind H
  refine n_callv (n_q md_210 rfl) (As := [.int p1, .int 0, .int 5]) (rest := [.ref 199]) rfl rfl (Nat.le_of_ble_eq_true rfl) rfl rfl (C135 (by omega) hv2) ?_
  by_cases h3 : v2 = 0
  · rw [if_pos h3] at H
    refine n_ifT (n_q md_210 rfl) (decide_eq_true h3) ?_
    exact P210_14 H hd
  · rw [if_neg h3] at H
    refine n_ifF (n_q md_210 rfl) (fun e1 => h3 (of_decide_eq_true e1)) ?_
    refine g_go 3 md_210 (i1 := 12) rfl ?_
    obtain ⟨v4, hv4, H⟩ := g_bind H
    refine n_callv (n_q md_210 rfl) (As := [.int p2, .int 0, .int 999]) (rest := [.ref 199]) rfl rfl (Nat.le_of_ble_eq_true rfl) rfl rfl (C135 (by omega) hv4) ?_
    by_cases h5 : v4 = 0
    · rw [if_pos h5] at H
      refine n_ifF (n_q md_210 rfl) (fun e1 => of_decide_eq_true e1 h5) ?_
      exact P210_14 H hd
    · rw [if_neg h5] at H
      refine n_ifT (n_q md_210 rfl) (decide_eq_true h5) ?_
      refine g_go 1 md_210 (i1 := 17) rfl ?_
      exact P210_17 H hd

theorem md_211 : m_md 211 = m_X8_share := rfl
noncomputable def f211_92 (s : g_S) (p1 : Int32) (p2 : Int32) (x3 : Int32) (x4 : Int32) : Option (Int32 × g_S) := (if (s 199 20) = 0 then (some ((0, s))) else (if (s 199 20) = 1 then (some ((p2 * x3, s))) else (some ((x4 * (s 199 50), s)))))
theorem P211_92 {d ex : Nat} {s : g_S} {p1 : Int32} {p2 : Int32} {x3 : Int32} {x4 : Int32} {u5 u6 u7 : Option Value}   {z : (Int32 × g_S)} (H : f211_92 s p1 p2 x3 x4 = some z) (hd : 79 ≤ d)  : n_R X (d + 1) 211 92 [some (.ref 199), some (.int p1), some (.int p2), some (.int x3), some (.int x4), u5, u6, u7] [] (g_M s ex) (g_rSI z ex) := by
  unfold f211_92 at H
  refine g_go 1 md_211 (i1 := 93) rfl ?_
  refine g_getf (n_q md_211 rfl) t_199 rfl ?_
  by_cases h1 : (s 199 20) = 0
  · rw [if_pos h1] at H
    refine n_ifF (n_q md_211 rfl) (fun e1 => of_decide_eq_true e1 h1) ?_
    refine g_go 2 md_211 (i1 := 109) rfl ?_
    cases H
    exact n_iret (n_q md_211 rfl) (Or.inl rfl)
  · rw [if_neg h1] at H
    refine n_ifT (n_q md_211 rfl) (decide_eq_true h1) ?_
    refine g_go 1 md_211 (i1 := 98) rfl ?_
    refine g_getf (n_q md_211 rfl) t_199 rfl ?_
    refine g_go 1 md_211 (i1 := 100) rfl ?_
    by_cases h2 : (s 199 20) = 1
    · rw [if_pos h2] at H
      refine n_cmpF (n_q md_211 rfl) (fun e1 => of_decide_eq_true e1 h2) ?_
      refine g_go 4 md_211 (i1 := 109) rfl ?_
      cases H
      exact n_iret (n_q md_211 rfl) (Or.inl rfl)
    · rw [if_neg h2] at H
      refine n_cmpT (n_q md_211 rfl) (decide_eq_true h2) ?_
      refine g_go 2 md_211 (i1 := 107) rfl ?_
      refine g_getf (n_q md_211 rfl) t_199 rfl ?_
      refine g_go 1 md_211 (i1 := 109) rfl ?_
      cases H
      exact n_iret (n_q md_211 rfl) (Or.inl rfl)
noncomputable def f211_53 (s : g_S) (p1 : Int32) (p2 : Int32) (x3 : Int32) (x4 : Int32) (x5 : Int32) (x6 : Int32) : Option ((Int32 × Int32 × Int32 × Int32) ⊕ (Int32 × g_S)) := (if x6 < 0 then (Option.map (fun w => (.inr (w) : ((Int32 × Int32 × Int32 × Int32) ⊕ (Int32 × g_S)))) (f211_92 s p1 p2 x3 x4)) else (if m_in x6 20 = true then (f136 s x5 (s (540 + x6.toNatClampNeg) 1)).bind fun v3 => if (s (540 + x6.toNatClampNeg) 0) = p1 then (some (.inl (x3 + (s (540 + x6.toNatClampNeg) 1), (x4 + v3, (x5 - v3, x6 + (-1)))))) else (some (.inl (x3, (x4, (x5 - v3, x6 + (-1)))))) else none))
theorem P211_53 {d ex : Nat} {rr : m_R} {s : g_S} {p1 : Int32} {p2 : Int32} {x3 : Int32} {x4 : Int32} {x5 : Int32} {x6 : Int32} {u7 : Option Value}   {z : ((Int32 × Int32 × Int32 × Int32) ⊕ (Int32 × g_S))} (H : f211_53 s p1 p2 x3 x4 x5 x6 = some z) (hd : 79 ≤ d) (K0 : ∀ S : Int32 × Int32 × Int32 × Int32, z = .inl S → ∀ u7 : Option Value, n_R X (d + 1) 211 53 [some (.ref 199), some (.int p1), some (.int p2), some (.int S.1), some (.int S.2.1), some (.int S.2.2.1), some (.int S.2.2.2), u7] [] (g_M s ex) rr) (Kr : ∀ q, z = .inr (q) → g_rSI q ex = rr) : n_R X (d + 1) 211 53 [some (.ref 199), some (.int p1), some (.int p2), some (.int x3), some (.int x4), some (.int x5), some (.int x6), u7] [] (g_M s ex) rr := by
  unfold f211_53 at H
  refine g_go 1 md_211 (i1 := 54) rfl ?_
  by_cases h1 : x6 < 0
  · rw [if_pos h1] at H
    refine n_ifT (n_q md_211 rfl) (decide_eq_true h1) ?_
    obtain ⟨w, hw, H⟩ := g_mapp H
    subst H
    rw [← Kr _ rfl]
    exact P211_92 hw hd
  · rw [if_neg h1] at H
    refine n_ifF (n_q md_211 rfl) (fun e1 => h1 (of_decide_eq_true e1)) ?_
    refine g_go 2 md_211 (i1 := 57) rfl ?_
    refine g_getr 539 (n_q md_211 rfl) t_199 rfl ?_
    refine g_go 1 md_211 (i1 := 59) rfl ?_
    obtain ⟨h2, H⟩ := g_gd H
    refine g_aald (n_q md_211 rfl) ta_539 (by decide) h2 (g_range (g_inlt h2)) ?_
    refine g_go 1 md_211 (i1 := 61) rfl ?_
    refine g_iald (n_q md_211 rfl) (te_539 (g_inlt h2)) (rfl : m_in 1 2 = true) ?_
    obtain ⟨v3, hv3, H⟩ := g_bind H
    refine n_callv (n_q md_211 rfl) (As := [.int x5, .int (s (540 + x6.toNatClampNeg) 1)]) (rest := []) rfl rfl (Nat.le_of_ble_eq_true rfl) rfl rfl (C136 (by omega) hv3) ?_
    refine g_go 6 md_211 (i1 := 69) (ls1 := [some (.ref 199), some (.int p1), some (.int p2), some (.int x3), some (.int x4), some (.int (x5 - v3)), some (.int x6), some (.int v3)]) rfl ?_
    refine g_getr 539 (n_q md_211 rfl) t_199 rfl ?_
    refine g_go 1 md_211 (i1 := 71) rfl ?_
    refine g_aald (n_q md_211 rfl) ta_539 (by decide) h2 (g_range (g_inlt h2)) ?_
    refine g_go 1 md_211 (i1 := 73) rfl ?_
    refine g_iald (n_q md_211 rfl) (te_539 (g_inlt h2)) (rfl : m_in 0 2 = true) ?_
    refine g_go 1 md_211 (i1 := 75) rfl ?_
    by_cases h4 : (s (540 + x6.toNatClampNeg) 0) = p1
    · rw [if_pos h4] at H
      refine n_cmpT (n_q md_211 rfl) (decide_eq_true h4) ?_
      refine g_go 2 md_211 (i1 := 79) rfl ?_
      refine g_getr 539 (n_q md_211 rfl) t_199 rfl ?_
      refine g_go 1 md_211 (i1 := 81) rfl ?_
      refine g_aald (n_q md_211 rfl) ta_539 (by decide) h2 (g_range (g_inlt h2)) ?_
      refine g_go 1 md_211 (i1 := 83) rfl ?_
      refine g_iald (n_q md_211 rfl) (te_539 (g_inlt h2)) (rfl : m_in 1 2 = true) ?_
      refine g_go 8 md_211 (i1 := 53) (ls1 := [some (.ref 199), some (.int p1), some (.int p2), some (.int (x3 + (s (540 + x6.toNatClampNeg) 1))), some (.int (x4 + v3)), some (.int (x5 - v3)), some (.int (x6 + (-1))), some (.int v3)]) rfl ?_
      cases H
      exact K0 (x3 + (s (540 + x6.toNatClampNeg) 1), (x4 + v3, (x5 - v3, x6 + (-1)))) rfl _
    · rw [if_neg h4] at H
      refine n_cmpF (n_q md_211 rfl) (fun e1 => h4 (of_decide_eq_true e1)) ?_
      refine g_go 3 md_211 (i1 := 53) (ls1 := [some (.ref 199), some (.int p1), some (.int p2), some (.int x3), some (.int x4), some (.int (x5 - v3)), some (.int (x6 + (-1))), some (.int v3)]) rfl ?_
      cases H
      exact K0 (x3, (x4, (x5 - v3, x6 + (-1)))) rfl _
noncomputable def f211_53L (s : g_S) (p1 : Int32) (p2 : Int32) (x3 : Int32) (x4 : Int32) (x5 : Int32) (x6 : Int32) : Option (Int32 × g_S) := g_run (fun S : Int32 × Int32 × Int32 × Int32 => f211_53 s p1 p2 S.1 S.2.1 S.2.2.1 S.2.2.2) (x3, (x4, (x5, x6)))
theorem f211_53L_eq (s : g_S) (p1 : Int32) (p2 : Int32) (x3 : Int32) (x4 : Int32) (x5 : Int32) (x6 : Int32) : f211_53L s p1 p2 x3 x4 x5 x6 = g_st (f211_53 s p1 p2 x3 x4 x5 x6) (fun S => f211_53L s p1 p2 S.1 S.2.1 S.2.2.1 S.2.2.2) := by
  unfold f211_53L
  exact g_run_eq _ _
theorem P211_53L {d ex : Nat} {s : g_S} {p1 : Int32} {p2 : Int32} {x3 : Int32} {x4 : Int32} {x5 : Int32} {x6 : Int32} {u7 : Option Value}   {z : (Int32 × g_S)} (H : f211_53L s p1 p2 x3 x4 x5 x6 = some z) (hd : 79 ≤ d)  : n_R X (d + 1) 211 53 [some (.ref 199), some (.int p1), some (.int p2), some (.int x3), some (.int x4), some (.int x5), some (.int x6), u7] [] (g_M s ex) (g_rSI z ex) := by
  unfold f211_53L at H
  refine g_rs (Q := fun S => ∀ u7 : Option Value, n_R X (d + 1) 211 53 [some (.ref 199), some (.int p1), some (.int p2), some (.int S.1), some (.int S.2.1), some (.int S.2.2.1), some (.int S.2.2.2), u7] [] (g_M s ex) (g_rSI z ex)) H ?_ u7
  intro S w hb K0 KK u7
  refine P211_53 hb hd ?_ ?_
  · exact fun S1 e1 => K0 S1 e1
  · exact fun q e1 => by rw [KK q e1]
noncomputable def f211_35 (s : g_S) (p1 : Int32) (p2 : Int32) : Option (Int32 × g_S) := ((f168 s (s 199 13) 0 0 0).bind fun s2 => f211_53L s2 p1 p2 0 0 p2 ((s2 199 49) - 1))
theorem P211_35 {d ex : Nat} {s : g_S} {p1 : Int32} {p2 : Int32} {u3 u4 u5 u6 u7 : Option Value}   {z : (Int32 × g_S)} (H : f211_35 s p1 p2 = some z) (hd : 79 ≤ d)  : n_R X (d + 1) 211 35 [some (.ref 199), some (.int p1), some (.int p2), u3, u4, u5, u6, u7] [] (g_M s ex) (g_rSI z ex) := by
  unfold f211_35 at H
  refine g_go 2 md_211 (i1 := 37) rfl ?_
  refine g_getf (n_q md_211 rfl) t_199 rfl ?_
  refine g_go 3 md_211 (i1 := 41) rfl ?_
  obtain ⟨s2, hs2, H⟩ := g_bind H
  refine n_call (n_q md_211 rfl) (As := [.ref 199, .int (s 199 13), .int 0, .int 0, .int 0]) (rest := []) rfl rfl (Nat.le_of_ble_eq_true rfl) rfl (g_recv (b := 0) rfl t_199 rfl) (C168 (by omega) hs2) ?_
  refine g_go 7 md_211 (i1 := 49) (ls1 := [some (.ref 199), some (.int p1), some (.int p2), some (.int 0), some (.int 0), some (.int p2), u6, u7]) rfl ?_
  refine g_getf (n_q md_211 rfl) t_199 rfl ?_
  refine g_go 3 md_211 (i1 := 53) (ls1 := [some (.ref 199), some (.int p1), some (.int p2), some (.int 0), some (.int 0), some (.int p2), some (.int ((s2 199 49) - 1)), u7]) rfl ?_
  exact P211_53L H hd
noncomputable def f211_25 (s : g_S) (p1 : Int32) (p2 : Int32) (x3 : Int32) : Option ((Int32 × g_S) ⊕ (Int32 × g_S)) := (if x3 < 8 then (if m_in x3 8 = true then g_let (g_w s 207 x3.toNatClampNeg 0) fun s3 => some (.inl (x3 + 1, s3)) else none) else (Option.map (fun w => (.inr (w) : ((Int32 × g_S) ⊕ (Int32 × g_S)))) (f211_35 s p1 p2)))
theorem P211_25 {d ex : Nat} {rr : m_R} {s : g_S} {p1 : Int32} {p2 : Int32} {x3 : Int32} {u4 u5 u6 u7 : Option Value}   {z : ((Int32 × g_S) ⊕ (Int32 × g_S))} (H : f211_25 s p1 p2 x3 = some z) (hd : 79 ≤ d) (K0 : ∀ S : Int32 × g_S, z = .inl S → ∀ u4 u5 u6 u7 : Option Value, n_R X (d + 1) 211 25 [some (.ref 199), some (.int p1), some (.int p2), some (.int S.1), u4, u5, u6, u7] [] (g_M S.2 ex) rr) (Kr : ∀ q, z = .inr (q) → g_rSI q ex = rr) : n_R X (d + 1) 211 25 [some (.ref 199), some (.int p1), some (.int p2), some (.int x3), u4, u5, u6, u7] [] (g_M s ex) rr := by
  unfold f211_25 at H
  refine g_go 2 md_211 (i1 := 27) rfl ?_
  by_cases h1 : x3 < 8
  · rw [if_pos h1] at H
    refine n_cmpF (n_q md_211 rfl) (fun e1 => absurd (of_decide_eq_true e1) (Int32.not_le.mpr h1)) ?_
    refine g_go 1 md_211 (i1 := 29) rfl ?_
    refine g_getr 207 (n_q md_211 rfl) t_199 rfl ?_
    refine g_go 2 md_211 (i1 := 32) rfl ?_
    obtain ⟨h2, H⟩ := g_gd H
    obtain ⟨s3, es3, H⟩ := g_letp H
    refine g_iast (n_q md_211 rfl) t_207 h2 es3 ?_
    refine g_go 2 md_211 (i1 := 25) (ls1 := [some (.ref 199), some (.int p1), some (.int p2), some (.int (x3 + 1)), u4, u5, u6, u7]) rfl ?_
    cases H
    exact K0 (x3 + 1, s3) rfl _ _ _ _
  · rw [if_neg h1] at H
    refine n_cmpT (n_q md_211 rfl) (decide_eq_true (Int32.not_lt.mp h1)) ?_
    obtain ⟨w, hw, H⟩ := g_mapp H
    subst H
    rw [← Kr _ rfl]
    exact P211_35 hw hd
noncomputable def f211_25L (s : g_S) (p1 : Int32) (p2 : Int32) (x3 : Int32) : Option (Int32 × g_S) := g_run (fun S : Int32 × g_S => f211_25 S.2 p1 p2 S.1) (x3, s)
theorem f211_25L_eq (s : g_S) (p1 : Int32) (p2 : Int32) (x3 : Int32) : f211_25L s p1 p2 x3 = g_st (f211_25 s p1 p2 x3) (fun S => f211_25L S.2 p1 p2 S.1) := by
  unfold f211_25L
  exact g_run_eq _ _
theorem P211_25L {d ex : Nat} {s : g_S} {p1 : Int32} {p2 : Int32} {x3 : Int32} {u4 u5 u6 u7 : Option Value}   {z : (Int32 × g_S)} (H : f211_25L s p1 p2 x3 = some z) (hd : 79 ≤ d)  : n_R X (d + 1) 211 25 [some (.ref 199), some (.int p1), some (.int p2), some (.int x3), u4, u5, u6, u7] [] (g_M s ex) (g_rSI z ex) := by
  unfold f211_25L at H
  refine g_rs (Q := fun S => ∀ u4 u5 u6 u7 : Option Value, n_R X (d + 1) 211 25 [some (.ref 199), some (.int p1), some (.int p2), some (.int S.1), u4, u5, u6, u7] [] (g_M S.2 ex) (g_rSI z ex)) H ?_ u4 u5 u6 u7
  intro S w hb K0 KK u4 u5 u6 u7
  refine P211_25 hb hd ?_ ?_
  · exact fun S1 e1 => K0 S1 e1
  · exact fun q e1 => by rw [KK q e1]
noncomputable def f211_18 (s : g_S) (p1 : Int32) (p2 : Int32) (y1 : Int32) : Option (Int32 × g_S) := (g_bd (f134 s y1 1) fun v1 s2 => if v1 = 0 then (f211_25L s2 p1 p2 0) else (some ((0, s2))))
theorem P211_18 {d ex : Nat} {s : g_S} {p1 : Int32} {p2 : Int32} {y1 : Int32} {u3 u4 u5 u6 u7 : Option Value}   {z : (Int32 × g_S)} (H : f211_18 s p1 p2 y1 = some z) (hd : 79 ≤ d)  : n_R X (d + 1) 211 18 [some (.ref 199), some (.int p1), some (.int p2), u3, u4, u5, u6, u7] [.int y1, .ref 199] (g_M s ex) (g_rSI z ex) := by
  unfold f211_18 at H
  refine g_go 1 md_211 (i1 := 19) rfl ?_
  obtain ⟨v1, s2, hv1, H⟩ := g_bdp H
  refine n_callv (n_q md_211 rfl) (As := [.ref 199, .int y1, .int 1]) (rest := []) rfl rfl (Nat.le_of_ble_eq_true rfl) rfl (g_recv (b := 0) rfl t_199 rfl) (C134 (by omega) hv1) ?_
  by_cases h3 : v1 = 0
  · rw [if_pos h3] at H
    refine n_ifT (n_q md_211 rfl) (decide_eq_true h3) ?_
    refine g_go 2 md_211 (i1 := 25) (ls1 := [some (.ref 199), some (.int p1), some (.int p2), some (.int 0), u4, u5, u6, u7]) rfl ?_
    exact P211_25L H hd
  · rw [if_neg h3] at H
    refine n_ifF (n_q md_211 rfl) (fun e1 => h3 (of_decide_eq_true e1)) ?_
    refine g_go 1 md_211 (i1 := 22) rfl ?_
    cases H
    exact n_iret (n_q md_211 rfl) (Or.inl rfl)
noncomputable def f211_15 (s : g_S) (p1 : Int32) (p2 : Int32) : Option (Int32 × g_S) := (f211_18 s p1 p2 1)
theorem P211_15 {d ex : Nat} {s : g_S} {p1 : Int32} {p2 : Int32} {u3 u4 u5 u6 u7 : Option Value}   {z : (Int32 × g_S)} (H : f211_15 s p1 p2 = some z) (hd : 79 ≤ d)  : n_R X (d + 1) 211 15 [some (.ref 199), some (.int p1), some (.int p2), u3, u4, u5, u6, u7] [.ref 199] (g_M s ex) (g_rSI z ex) := by
  unfold f211_15 at H
  refine g_go 2 md_211 (i1 := 18) rfl ?_
  exact P211_18 H hd
noncomputable def f211 (s : g_S) (p1 : Int32) (p2 : Int32) : Option (Int32 × g_S) := (g_let (g_w s 199 0 0) fun s1 => (f135 s1 p1 0 5).bind fun v2 => if v2 = 0 then (f211_15 s1 p1 p2) else ((f135 s1 p2 0 (s1 199 50)).bind fun v4 => if v4 = 0 then (f211_15 s1 p1 p2) else (f211_18 s1 p1 p2 0)))
theorem C211 {d ex : Nat} {s : g_S} {p1 : Int32} {p2 : Int32}  {z : Int32 × g_S} (hd : 79 < d) (H : f211 s p1 p2 = some z) : n_C X d 211 [.ref 199, .int p1, .int p2] (g_M s ex) (g_rSI z ex) := by
  obtain ⟨d, rfl⟩ : ∃ d1, d = d1 + 1 := ⟨d - 1, by omega⟩
  replace hd := Nat.le_of_lt_succ hd
  refine ⟨Nat.le_of_ble_eq_true rfl, ?_⟩
  rw [md_211]
  show n_R X (d + 1) 211 0 [some (.ref 199), some (.int p1), some (.int p2), none, none, none, none, none] [] (g_M s ex) _
  unfold f211 at H
  refine g_go 2 md_211 (i1 := 2) rfl ?_
  obtain ⟨s1, es1, H⟩ := g_letp H
  refine g_putf (n_q md_211 rfl) t_199 rfl rfl es1 ?_
  refine g_go 4 md_211 (i1 := 7) rfl ?_
  obtain ⟨v2, hv2, H⟩ := g_bind H
  refine n_callv (n_q md_211 rfl) (As := [.int p1, .int 0, .int 5]) (rest := [.ref 199]) rfl rfl (Nat.le_of_ble_eq_true rfl) rfl rfl (C135 (by omega) hv2) ?_
  by_cases h3 : v2 = 0
  · rw [if_pos h3] at H
    refine n_ifT (n_q md_211 rfl) (decide_eq_true h3) ?_
    exact P211_15 H hd
  · rw [if_neg h3] at H
    refine n_ifF (n_q md_211 rfl) (fun e1 => h3 (of_decide_eq_true e1)) ?_
    refine g_go 3 md_211 (i1 := 12) rfl ?_
    refine g_getf (n_q md_211 rfl) t_199 rfl ?_
    obtain ⟨v4, hv4, H⟩ := g_bind H
    refine n_callv (n_q md_211 rfl) (As := [.int p2, .int 0, .int (s1 199 50)]) (rest := [.ref 199]) rfl rfl (Nat.le_of_ble_eq_true rfl) rfl rfl (C135 (by omega) hv4) ?_
    by_cases h5 : v4 = 0
    · rw [if_pos h5] at H
      refine n_ifF (n_q md_211 rfl) (fun e1 => of_decide_eq_true e1 h5) ?_
      exact P211_15 H hd
    · rw [if_neg h5] at H
      refine n_ifT (n_q md_211 rfl) (decide_eq_true h5) ?_
      refine g_go 1 md_211 (i1 := 18) rfl ?_
      exact P211_18 H hd

theorem md_212 : m_md 212 = m_X8_judge := rfl
noncomputable def f212_23 (s : g_S) (p1 : Int32) (p2 : Int32) (y1 : Int32) : Option (Int32 × g_S) := (g_bd (f134 s y1 2) fun v1 s2 => if v1 = 0 then (if m_in p1 13 = true then g_let (g_w s2 223 p1.toNatClampNeg p2) fun s5 => some ((s2 223 p1.toNatClampNeg, s5)) else none) else (some ((0, s2))))
theorem P212_23 {d ex : Nat} {s : g_S} {p1 : Int32} {p2 : Int32} {y1 : Int32} {u3 : Option Value}   {z : (Int32 × g_S)} (H : f212_23 s p1 p2 y1 = some z) (hd : 14 ≤ d)  : n_R X (d + 1) 212 23 [some (.ref 199), some (.int p1), some (.int p2), u3] [.int y1, .ref 199] (g_M s ex) (g_rSI z ex) := by
  unfold f212_23 at H
  refine g_go 1 md_212 (i1 := 24) rfl ?_
  obtain ⟨v1, s2, hv1, H⟩ := g_bdp H
  refine n_callv (n_q md_212 rfl) (As := [.ref 199, .int y1, .int 2]) (rest := []) rfl rfl (Nat.le_of_ble_eq_true rfl) rfl (g_recv (b := 0) rfl t_199 rfl) (C134 (by omega) hv1) ?_
  by_cases h3 : v1 = 0
  · rw [if_pos h3] at H
    refine n_ifT (n_q md_212 rfl) (decide_eq_true h3) ?_
    refine g_go 1 md_212 (i1 := 29) rfl ?_
    refine g_getr 223 (n_q md_212 rfl) t_199 rfl ?_
    refine g_go 1 md_212 (i1 := 31) rfl ?_
    obtain ⟨h4, H⟩ := g_gd H
    refine g_iald (n_q md_212 rfl) t_223 h4 ?_
    refine g_go 2 md_212 (i1 := 34) (ls1 := [some (.ref 199), some (.int p1), some (.int p2), some (.int (s2 223 p1.toNatClampNeg))]) rfl ?_
    refine g_getr 223 (n_q md_212 rfl) t_199 rfl ?_
    refine g_go 2 md_212 (i1 := 37) rfl ?_
    obtain ⟨s5, es5, H⟩ := g_letp H
    refine g_iast (n_q md_212 rfl) t_223 h4 es5 ?_
    refine g_go 1 md_212 (i1 := 39) rfl ?_
    cases H
    exact n_iret (n_q md_212 rfl) (Or.inl rfl)
  · rw [if_neg h3] at H
    refine n_ifF (n_q md_212 rfl) (fun e1 => h3 (of_decide_eq_true e1)) ?_
    refine g_go 1 md_212 (i1 := 27) rfl ?_
    cases H
    exact n_iret (n_q md_212 rfl) (Or.inl rfl)
noncomputable def f212_11 (s : g_S) (p1 : Int32) (p2 : Int32) (y1 : Int32) : Option (Int32 × g_S) := (g_bd (f134 s y1 1) fun v1 s2 => if v1 = 0 then ((f135 s2 p2 0 9999).bind fun v4 => if v4 = 0 then (f212_23 s2 p1 p2 1) else (f212_23 s2 p1 p2 0)) else (some ((0, s2))))
theorem P212_11 {d ex : Nat} {s : g_S} {p1 : Int32} {p2 : Int32} {y1 : Int32} {u3 : Option Value}   {z : (Int32 × g_S)} (H : f212_11 s p1 p2 y1 = some z) (hd : 14 ≤ d)  : n_R X (d + 1) 212 11 [some (.ref 199), some (.int p1), some (.int p2), u3] [.int y1, .ref 199] (g_M s ex) (g_rSI z ex) := by
  unfold f212_11 at H
  refine g_go 1 md_212 (i1 := 12) rfl ?_
  obtain ⟨v1, s2, hv1, H⟩ := g_bdp H
  refine n_callv (n_q md_212 rfl) (As := [.ref 199, .int y1, .int 1]) (rest := []) rfl rfl (Nat.le_of_ble_eq_true rfl) rfl (g_recv (b := 0) rfl t_199 rfl) (C134 (by omega) hv1) ?_
  by_cases h3 : v1 = 0
  · rw [if_pos h3] at H
    refine n_ifF (n_q md_212 rfl) (fun e1 => of_decide_eq_true e1 h3) ?_
    refine g_go 4 md_212 (i1 := 18) rfl ?_
    obtain ⟨v4, hv4, H⟩ := g_bind H
    refine n_callv (n_q md_212 rfl) (As := [.int p2, .int 0, .int 9999]) (rest := [.ref 199]) rfl rfl (Nat.le_of_ble_eq_true rfl) rfl rfl (C135 (by omega) hv4) ?_
    by_cases h5 : v4 = 0
    · rw [if_pos h5] at H
      refine n_ifF (n_q md_212 rfl) (fun e1 => of_decide_eq_true e1 h5) ?_
      refine g_go 2 md_212 (i1 := 23) rfl ?_
      exact P212_23 H hd
    · rw [if_neg h5] at H
      refine n_ifT (n_q md_212 rfl) (decide_eq_true h5) ?_
      refine g_go 1 md_212 (i1 := 23) rfl ?_
      exact P212_23 H hd
  · rw [if_neg h3] at H
    refine n_ifT (n_q md_212 rfl) (decide_eq_true h3) ?_
    refine g_go 1 md_212 (i1 := 27) rfl ?_
    cases H
    exact n_iret (n_q md_212 rfl) (Or.inl rfl)
noncomputable def f212 (s : g_S) (p1 : Int32) (p2 : Int32) : Option (Int32 × g_S) := (g_let (g_w s 199 0 0) fun s1 => (f173 s1 p1).bind fun v2 => if v2 = 0 then (f212_11 s1 p1 p2 1) else (f212_11 s1 p1 p2 0))
theorem C212 {d ex : Nat} {s : g_S} {p1 : Int32} {p2 : Int32}  {z : Int32 × g_S} (hd : 14 < d) (H : f212 s p1 p2 = some z) : n_C X d 212 [.ref 199, .int p1, .int p2] (g_M s ex) (g_rSI z ex) := by
  obtain ⟨d, rfl⟩ : ∃ d1, d = d1 + 1 := ⟨d - 1, by omega⟩
  replace hd := Nat.le_of_lt_succ hd
  refine ⟨Nat.le_of_ble_eq_true rfl, ?_⟩
  rw [md_212]
  show n_R X (d + 1) 212 0 [some (.ref 199), some (.int p1), some (.int p2), none] [] (g_M s ex) _
  unfold f212 at H
  refine g_go 2 md_212 (i1 := 2) rfl ?_
  obtain ⟨s1, es1, H⟩ := g_letp H
  refine g_putf (n_q md_212 rfl) t_199 rfl rfl es1 ?_
  refine g_go 3 md_212 (i1 := 6) rfl ?_
  obtain ⟨v2, hv2, H⟩ := g_bind H
  refine n_callv (n_q md_212 rfl) (As := [.ref 199, .int p1]) (rest := [.ref 199]) rfl rfl (Nat.le_of_ble_eq_true rfl) rfl (g_recv (b := 0) rfl t_199 rfl) (C173 (by omega) hv2) ?_
  by_cases h3 : v2 = 0
  · rw [if_pos h3] at H
    refine n_ifF (n_q md_212 rfl) (fun e1 => of_decide_eq_true e1 h3) ?_
    refine g_go 2 md_212 (i1 := 11) rfl ?_
    exact P212_11 H hd
  · rw [if_neg h3] at H
    refine n_ifT (n_q md_212 rfl) (decide_eq_true h3) ?_
    refine g_go 1 md_212 (i1 := 11) rfl ?_
    exact P212_11 H hd

theorem md_213 : m_md 213 = m_X8_wrong := rfl
noncomputable def f213_9 (s : g_S) (x1 : Int32) : Option ((Int32) ⊕ (Int32 × g_S)) := (if x1 < (s 199 26) then (if m_in x1 13 = true then if (s 223 x1.toNatClampNeg) = (s 238 x1.toNatClampNeg) then (some (.inl (x1 + 1))) else (some (.inr ((x1, s)))) else none) else (some (.inr (((-1), s)))))
theorem P213_9 {d ex : Nat} {rr : m_R} {s : g_S} {x1 : Int32}   {z : ((Int32) ⊕ (Int32 × g_S))} (H : f213_9 s x1 = some z) (hd : 81 ≤ d) (K0 : ∀ S : Int32, z = .inl S → n_R X (d + 1) 213 9 [some (.ref 199), some (.int S)] [] (g_M s ex) rr) (Kr : ∀ q, z = .inr (q) → g_rSI q ex = rr) : n_R X (d + 1) 213 9 [some (.ref 199), some (.int x1)] [] (g_M s ex) rr := by
  unfold f213_9 at H
  refine g_go 2 md_213 (i1 := 11) rfl ?_
  refine g_getf (n_q md_213 rfl) t_199 rfl ?_
  by_cases h1 : x1 < (s 199 26)
  · rw [if_pos h1] at H
    refine n_cmpF (n_q md_213 rfl) (fun e1 => absurd (of_decide_eq_true e1) (Int32.not_le.mpr h1)) ?_
    refine g_go 1 md_213 (i1 := 14) rfl ?_
    refine g_getr 223 (n_q md_213 rfl) t_199 rfl ?_
    refine g_go 1 md_213 (i1 := 16) rfl ?_
    obtain ⟨h2, H⟩ := g_gd H
    refine g_iald (n_q md_213 rfl) t_223 h2 ?_
    refine g_go 1 md_213 (i1 := 18) rfl ?_
    refine g_getr 238 (n_q md_213 rfl) t_199 rfl ?_
    refine g_go 1 md_213 (i1 := 20) rfl ?_
    refine g_iald (n_q md_213 rfl) t_238 h2 ?_
    by_cases h3 : (s 223 x1.toNatClampNeg) = (s 238 x1.toNatClampNeg)
    · rw [if_pos h3] at H
      refine n_cmpT (n_q md_213 rfl) (decide_eq_true h3) ?_
      refine g_go 2 md_213 (i1 := 9) (ls1 := [some (.ref 199), some (.int (x1 + 1))]) rfl ?_
      cases H
      exact K0 (x1 + 1) rfl
    · rw [if_neg h3] at H
      refine n_cmpF (n_q md_213 rfl) (fun e1 => h3 (of_decide_eq_true e1)) ?_
      refine g_go 1 md_213 (i1 := 23) rfl ?_
      cases H
      rw [← Kr _ rfl]
      exact n_iret (n_q md_213 rfl) (Or.inl rfl)
  · rw [if_neg h1] at H
    refine n_cmpT (n_q md_213 rfl) (decide_eq_true (Int32.not_lt.mp h1)) ?_
    refine g_go 1 md_213 (i1 := 27) rfl ?_
    cases H
    rw [← Kr _ rfl]
    exact n_iret (n_q md_213 rfl) (Or.inl rfl)
noncomputable def f213_9L (s : g_S) (x1 : Int32) : Option (Int32 × g_S) := g_run (fun S : Int32 => f213_9 s S) x1
theorem f213_9L_eq (s : g_S) (x1 : Int32) : f213_9L s x1 = g_st (f213_9 s x1) (fun S => f213_9L s S) := by
  unfold f213_9L
  exact g_run_eq _ _
theorem P213_9L {d ex : Nat} {s : g_S} {x1 : Int32}   {z : (Int32 × g_S)} (H : f213_9L s x1 = some z) (hd : 81 ≤ d)  : n_R X (d + 1) 213 9 [some (.ref 199), some (.int x1)] [] (g_M s ex) (g_rSI z ex) := by
  unfold f213_9L at H
  refine g_rs (Q := fun S => n_R X (d + 1) 213 9 [some (.ref 199), some (.int S)] [] (g_M s ex) (g_rSI z ex)) H ?_
  intro S w hb K0 KK
  refine P213_9 hb hd ?_ ?_
  · exact fun S1 e1 => K0 S1 e1
  · exact fun q e1 => by rw [KK q e1]
noncomputable def f213 (s : g_S) : Option (Int32 × g_S) := (g_let (g_w s 199 0 0) fun s1 => (f182 s1 (s1 199 13)).bind fun s3 => f213_9L s3 1)
theorem C213 {d ex : Nat} {s : g_S}  {z : Int32 × g_S} (hd : 81 < d) (H : f213 s = some z) : n_C X d 213 [.ref 199] (g_M s ex) (g_rSI z ex) := by
  obtain ⟨d, rfl⟩ : ∃ d1, d = d1 + 1 := ⟨d - 1, by omega⟩
  replace hd := Nat.le_of_lt_succ hd
  refine ⟨Nat.le_of_ble_eq_true rfl, ?_⟩
  rw [md_213]
  show n_R X (d + 1) 213 0 [some (.ref 199), none] [] (g_M s ex) _
  unfold f213 at H
  refine g_go 2 md_213 (i1 := 2) rfl ?_
  obtain ⟨s1, es1, H⟩ := g_letp H
  refine g_putf (n_q md_213 rfl) t_199 rfl rfl es1 ?_
  refine g_go 2 md_213 (i1 := 5) rfl ?_
  refine g_getf (n_q md_213 rfl) t_199 rfl ?_
  obtain ⟨s3, hs3, H⟩ := g_bind H
  refine n_call (n_q md_213 rfl) (As := [.ref 199, .int (s1 199 13)]) (rest := []) rfl rfl (Nat.le_of_ble_eq_true rfl) rfl (g_recv (b := 0) rfl t_199 rfl) (C182 (by omega) hs3) ?_
  refine g_go 2 md_213 (i1 := 9) (ls1 := [some (.ref 199), some (.int 1)]) rfl ?_
  exact P213_9L H hd

theorem md_214 : m_md 214 = m_X8_claimIn := rfl
noncomputable def f214 (s : g_S) (p1 : Int32) (p2 : Int32) : Option (Int32 × g_S) := ((f169 s (p2 - p2 / 32 * 32)).bind fun s2 => g_let (g_w s2 207 5 0) fun s3 => g_let (g_w s3 207 6 100) fun s4 => g_let (g_w s4 207 7 10) fun s5 => (f168 s5 p1 (p2 / 192) ((p2 / 32) - (p2 / 32) / 6 * 6) 0).bind fun s7 => if (s7 199 21) = 0 then (if (s7 199 22) = 0 then (some ((0, s7))) else (some ((s7 199 19, s7)))) else (some ((s7 199 19, s7))))
theorem C214 {d ex : Nat} {s : g_S} {p1 : Int32} {p2 : Int32}  {z : Int32 × g_S} (hd : 79 < d) (H : f214 s p1 p2 = some z) : n_C X d 214 [.ref 199, .int p1, .int p2] (g_M s ex) (g_rSI z ex) := by
  obtain ⟨d, rfl⟩ : ∃ d1, d = d1 + 1 := ⟨d - 1, by omega⟩
  replace hd := Nat.le_of_lt_succ hd
  refine ⟨Nat.le_of_ble_eq_true rfl, ?_⟩
  rw [md_214]
  show n_R X (d + 1) 214 0 [some (.ref 199), some (.int p1), some (.int p2)] [] (g_M s ex) _
  unfold f214 at H
  refine g_go 3 md_214 (i1 := 3) rfl ?_
  refine n_bin (n_q md_214 rfl) (g_rem (by decide : ¬ (32 : Int32) = 0)) ?_
  obtain ⟨s2, hs2, H⟩ := g_bind H
  refine n_call (n_q md_214 rfl) (As := [.ref 199, .int (p2 - p2 / 32 * 32)]) (rest := []) rfl rfl (Nat.le_of_ble_eq_true rfl) rfl (g_recv (b := 0) rfl t_199 rfl) (C169 (by omega) hs2) ?_
  refine g_go 1 md_214 (i1 := 6) rfl ?_
  refine g_getr 207 (n_q md_214 rfl) t_199 rfl ?_
  refine g_go 2 md_214 (i1 := 9) rfl ?_
  obtain ⟨s3, es3, H⟩ := g_letp H
  refine g_iast (n_q md_214 rfl) t_207 (rfl : m_in 5 8 = true) es3 ?_
  refine g_go 1 md_214 (i1 := 11) rfl ?_
  refine g_getr 207 (n_q md_214 rfl) t_199 rfl ?_
  refine g_go 2 md_214 (i1 := 14) rfl ?_
  obtain ⟨s4, es4, H⟩ := g_letp H
  refine g_iast (n_q md_214 rfl) t_207 (rfl : m_in 6 8 = true) es4 ?_
  refine g_go 1 md_214 (i1 := 16) rfl ?_
  refine g_getr 207 (n_q md_214 rfl) t_199 rfl ?_
  refine g_go 2 md_214 (i1 := 19) rfl ?_
  obtain ⟨s5, es5, H⟩ := g_letp H
  refine g_iast (n_q md_214 rfl) t_207 (rfl : m_in 7 8 = true) es5 ?_
  refine g_go 4 md_214 (i1 := 24) rfl ?_
  refine n_bin (n_q md_214 rfl) (g_div (by decide : ¬ (192 : Int32) = 0)) ?_
  refine g_go 2 md_214 (i1 := 27) rfl ?_
  refine n_bin (n_q md_214 rfl) (g_div (by decide : ¬ (32 : Int32) = 0)) ?_
  refine g_go 1 md_214 (i1 := 29) rfl ?_
  refine n_bin (n_q md_214 rfl) (g_rem (by decide : ¬ (6 : Int32) = 0)) ?_
  refine g_go 1 md_214 (i1 := 31) rfl ?_
  obtain ⟨s7, hs7, H⟩ := g_bind H
  refine n_call (n_q md_214 rfl) (As := [.ref 199, .int p1, .int (p2 / 192), .int ((p2 / 32) - (p2 / 32) / 6 * 6), .int 0]) (rest := []) rfl rfl (Nat.le_of_ble_eq_true rfl) rfl (g_recv (b := 0) rfl t_199 rfl) (C168 (by omega) hs7) ?_
  refine g_go 1 md_214 (i1 := 33) rfl ?_
  refine g_getf (n_q md_214 rfl) t_199 rfl ?_
  by_cases h8 : (s7 199 21) = 0
  · rw [if_pos h8] at H
    refine n_ifF (n_q md_214 rfl) (fun e1 => of_decide_eq_true e1 h8) ?_
    refine g_go 1 md_214 (i1 := 36) rfl ?_
    refine g_getf (n_q md_214 rfl) t_199 rfl ?_
    by_cases h9 : (s7 199 22) = 0
    · rw [if_pos h9] at H
      refine n_ifT (n_q md_214 rfl) (decide_eq_true h9) ?_
      refine g_go 1 md_214 (i1 := 42) rfl ?_
      cases H
      exact n_iret (n_q md_214 rfl) (Or.inl rfl)
    · rw [if_neg h9] at H
      refine n_ifF (n_q md_214 rfl) (fun e1 => h9 (of_decide_eq_true e1)) ?_
      refine g_go 1 md_214 (i1 := 39) rfl ?_
      refine g_getf (n_q md_214 rfl) t_199 rfl ?_
      refine g_go 1 md_214 (i1 := 42) rfl ?_
      cases H
      exact n_iret (n_q md_214 rfl) (Or.inl rfl)
  · rw [if_neg h8] at H
    refine n_ifT (n_q md_214 rfl) (decide_eq_true h8) ?_
    refine g_go 1 md_214 (i1 := 39) rfl ?_
    refine g_getf (n_q md_214 rfl) t_199 rfl ?_
    refine g_go 1 md_214 (i1 := 42) rfl ?_
    cases H
    exact n_iret (n_q md_214 rfl) (Or.inl rfl)

theorem md_215 : m_md 215 = m_X8_parting := rfl
noncomputable def f215_30 (s : g_S) (p1 : Int32) (p2 : Int32) (x3 : Int32) : Option ((Int32 × g_S) ⊕ (Int32 × g_S)) := (if x3 < 1152 then (g_bd (f214 s p1 x3) fun v2 s3 => g_bd (f214 s3 p2 x3) fun v4 s5 => if v2 = v4 then (some (.inl (x3 + 1, s5))) else (some (.inr ((x3, s5))))) else (some (.inr (((-1), s)))))
theorem P215_30 {d ex : Nat} {rr : m_R} {s : g_S} {p1 : Int32} {p2 : Int32} {x3 : Int32}   {z : ((Int32 × g_S) ⊕ (Int32 × g_S))} (H : f215_30 s p1 p2 x3 = some z) (hd : 80 ≤ d) (K0 : ∀ S : Int32 × g_S, z = .inl S → n_R X (d + 1) 215 30 [some (.ref 199), some (.int p1), some (.int p2), some (.int S.1)] [] (g_M S.2 ex) rr) (Kr : ∀ q, z = .inr (q) → g_rSI q ex = rr) : n_R X (d + 1) 215 30 [some (.ref 199), some (.int p1), some (.int p2), some (.int x3)] [] (g_M s ex) rr := by
  unfold f215_30 at H
  refine g_go 2 md_215 (i1 := 32) rfl ?_
  by_cases h1 : x3 < 1152
  · rw [if_pos h1] at H
    refine n_cmpF (n_q md_215 rfl) (fun e1 => absurd (of_decide_eq_true e1) (Int32.not_le.mpr h1)) ?_
    refine g_go 3 md_215 (i1 := 36) rfl ?_
    obtain ⟨v2, s3, hv2, H⟩ := g_bdp H
    refine n_callv (n_q md_215 rfl) (As := [.ref 199, .int p1, .int x3]) (rest := []) rfl rfl (Nat.le_of_ble_eq_true rfl) rfl (g_recv (b := 0) rfl t_199 rfl) (C214 (by omega) hv2) ?_
    refine g_go 3 md_215 (i1 := 40) rfl ?_
    obtain ⟨v4, s5, hv4, H⟩ := g_bdp H
    refine n_callv (n_q md_215 rfl) (As := [.ref 199, .int p2, .int x3]) (rest := [.int v2]) rfl rfl (Nat.le_of_ble_eq_true rfl) rfl (g_recv (b := 0) rfl t_199 rfl) (C214 (by omega) hv4) ?_
    by_cases h6 : v2 = v4
    · rw [if_pos h6] at H
      refine n_cmpT (n_q md_215 rfl) (decide_eq_true h6) ?_
      refine g_go 2 md_215 (i1 := 30) (ls1 := [some (.ref 199), some (.int p1), some (.int p2), some (.int (x3 + 1))]) rfl ?_
      cases H
      exact K0 (x3 + 1, s5) rfl
    · rw [if_neg h6] at H
      refine n_cmpF (n_q md_215 rfl) (fun e1 => h6 (of_decide_eq_true e1)) ?_
      refine g_go 1 md_215 (i1 := 43) rfl ?_
      cases H
      rw [← Kr _ rfl]
      exact n_iret (n_q md_215 rfl) (Or.inl rfl)
  · rw [if_neg h1] at H
    refine n_cmpT (n_q md_215 rfl) (decide_eq_true (Int32.not_lt.mp h1)) ?_
    refine g_go 1 md_215 (i1 := 47) rfl ?_
    cases H
    rw [← Kr _ rfl]
    exact n_iret (n_q md_215 rfl) (Or.inl rfl)
noncomputable def f215_30L (s : g_S) (p1 : Int32) (p2 : Int32) (x3 : Int32) : Option (Int32 × g_S) := g_run (fun S : Int32 × g_S => f215_30 S.2 p1 p2 S.1) (x3, s)
theorem f215_30L_eq (s : g_S) (p1 : Int32) (p2 : Int32) (x3 : Int32) : f215_30L s p1 p2 x3 = g_st (f215_30 s p1 p2 x3) (fun S => f215_30L S.2 p1 p2 S.1) := by
  unfold f215_30L
  exact g_run_eq _ _
theorem P215_30L {d ex : Nat} {s : g_S} {p1 : Int32} {p2 : Int32} {x3 : Int32}   {z : (Int32 × g_S)} (H : f215_30L s p1 p2 x3 = some z) (hd : 80 ≤ d)  : n_R X (d + 1) 215 30 [some (.ref 199), some (.int p1), some (.int p2), some (.int x3)] [] (g_M s ex) (g_rSI z ex) := by
  unfold f215_30L at H
  refine g_rs (Q := fun S => n_R X (d + 1) 215 30 [some (.ref 199), some (.int p1), some (.int p2), some (.int S.1)] [] (g_M S.2 ex) (g_rSI z ex)) H ?_
  intro S w hb K0 KK
  refine P215_30 hb hd ?_ ?_
  · exact fun S1 e1 => K0 S1 e1
  · exact fun q e1 => by rw [KK q e1]
noncomputable def f215_23 (s : g_S) (p1 : Int32) (p2 : Int32) (y1 : Int32) : Option (Int32 × g_S) := (g_bd (f134 s y1 1) fun v1 s2 => if v1 = 0 then (f215_30L s2 p1 p2 0) else (some ((0, s2))))
theorem P215_23 {d ex : Nat} {s : g_S} {p1 : Int32} {p2 : Int32} {y1 : Int32} {u3 : Option Value}   {z : (Int32 × g_S)} (H : f215_23 s p1 p2 y1 = some z) (hd : 80 ≤ d)  : n_R X (d + 1) 215 23 [some (.ref 199), some (.int p1), some (.int p2), u3] [.int y1, .ref 199] (g_M s ex) (g_rSI z ex) := by
  unfold f215_23 at H
  refine g_go 1 md_215 (i1 := 24) rfl ?_
  obtain ⟨v1, s2, hv1, H⟩ := g_bdp H
  refine n_callv (n_q md_215 rfl) (As := [.ref 199, .int y1, .int 1]) (rest := []) rfl rfl (Nat.le_of_ble_eq_true rfl) rfl (g_recv (b := 0) rfl t_199 rfl) (C134 (by omega) hv1) ?_
  by_cases h3 : v1 = 0
  · rw [if_pos h3] at H
    refine n_ifT (n_q md_215 rfl) (decide_eq_true h3) ?_
    refine g_go 2 md_215 (i1 := 30) (ls1 := [some (.ref 199), some (.int p1), some (.int p2), some (.int 0)]) rfl ?_
    exact P215_30L H hd
  · rw [if_neg h3] at H
    refine n_ifF (n_q md_215 rfl) (fun e1 => h3 (of_decide_eq_true e1)) ?_
    refine g_go 1 md_215 (i1 := 27) rfl ?_
    cases H
    exact n_iret (n_q md_215 rfl) (Or.inl rfl)
noncomputable def f215_20 (s : g_S) (p1 : Int32) (p2 : Int32) : Option (Int32 × g_S) := (f215_23 s p1 p2 1)
theorem P215_20 {d ex : Nat} {s : g_S} {p1 : Int32} {p2 : Int32} {u3 : Option Value}   {z : (Int32 × g_S)} (H : f215_20 s p1 p2 = some z) (hd : 80 ≤ d)  : n_R X (d + 1) 215 20 [some (.ref 199), some (.int p1), some (.int p2), u3] [.ref 199] (g_M s ex) (g_rSI z ex) := by
  unfold f215_20 at H
  refine g_go 2 md_215 (i1 := 23) rfl ?_
  exact P215_23 H hd
noncomputable def f215 (s : g_S) (p1 : Int32) (p2 : Int32) : Option (Int32 × g_S) := (g_let (g_w s 199 0 0) fun s1 => (f135 s1 p1 0 ((s1 199 12) - 1)).bind fun v2 => if v2 = 0 then (f215_20 s1 p1 p2) else ((f135 s1 p2 0 ((s1 199 12) - 1)).bind fun v4 => if v4 = 0 then (f215_20 s1 p1 p2) else (f215_23 s1 p1 p2 0)))
theorem C215 {d ex : Nat} {s : g_S} {p1 : Int32} {p2 : Int32}  {z : Int32 × g_S} (hd : 80 < d) (H : f215 s p1 p2 = some z) : n_C X d 215 [.ref 199, .int p1, .int p2] (g_M s ex) (g_rSI z ex) := by
  obtain ⟨d, rfl⟩ : ∃ d1, d = d1 + 1 := ⟨d - 1, by omega⟩
  replace hd := Nat.le_of_lt_succ hd
  refine ⟨Nat.le_of_ble_eq_true rfl, ?_⟩
  rw [md_215]
  show n_R X (d + 1) 215 0 [some (.ref 199), some (.int p1), some (.int p2), none] [] (g_M s ex) _
  unfold f215 at H
  refine g_go 2 md_215 (i1 := 2) rfl ?_
  obtain ⟨s1, es1, H⟩ := g_letp H
  refine g_putf (n_q md_215 rfl) t_199 rfl rfl es1 ?_
  refine g_go 4 md_215 (i1 := 7) rfl ?_
  refine g_getf (n_q md_215 rfl) t_199 rfl ?_
  refine g_go 2 md_215 (i1 := 10) rfl ?_
  obtain ⟨v2, hv2, H⟩ := g_bind H
  refine n_callv (n_q md_215 rfl) (As := [.int p1, .int 0, .int ((s1 199 12) - 1)]) (rest := [.ref 199]) rfl rfl (Nat.le_of_ble_eq_true rfl) rfl rfl (C135 (by omega) hv2) ?_
  by_cases h3 : v2 = 0
  · rw [if_pos h3] at H
    refine n_ifT (n_q md_215 rfl) (decide_eq_true h3) ?_
    exact P215_20 H hd
  · rw [if_neg h3] at H
    refine n_ifF (n_q md_215 rfl) (fun e1 => h3 (of_decide_eq_true e1)) ?_
    refine g_go 3 md_215 (i1 := 15) rfl ?_
    refine g_getf (n_q md_215 rfl) t_199 rfl ?_
    refine g_go 2 md_215 (i1 := 18) rfl ?_
    obtain ⟨v4, hv4, H⟩ := g_bind H
    refine n_callv (n_q md_215 rfl) (As := [.int p2, .int 0, .int ((s1 199 12) - 1)]) (rest := [.ref 199]) rfl rfl (Nat.le_of_ble_eq_true rfl) rfl rfl (C135 (by omega) hv4) ?_
    by_cases h5 : v4 = 0
    · rw [if_pos h5] at H
      refine n_ifF (n_q md_215 rfl) (fun e1 => of_decide_eq_true e1 h5) ?_
      exact P215_20 H hd
    · rw [if_neg h5] at H
      refine n_ifT (n_q md_215 rfl) (decide_eq_true h5) ?_
      refine g_go 1 md_215 (i1 := 23) rfl ?_
      exact P215_23 H hd

end K10
