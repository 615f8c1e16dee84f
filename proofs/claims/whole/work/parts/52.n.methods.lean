/-! METHODS, written by wip/whole/gen_51.py (13). -/
section K13
variable {X : m_X}
theorem md_251 : m_md 251 = m_L_law_ := rfl
noncomputable def f251_25 (X : m_X) (s : g_S) (ex : Nat) (x4 : Int32) : Option ((Int32 × (g_S × Nat)) ⊕ (Int32 × (g_S × Nat))) := (if m_in (x4 + 1) X.1 = true then if m_in (x4 + 2) X.1 = true then if m_in (x4 + 3) X.1 = true then if m_in (x4 + 4) X.1 = true then if m_in (x4 + 5) X.1 = true then g_bd (f78 s (X.2 (x4 + 1).toNatClampNeg) (X.2 (x4 + 2).toNatClampNeg) (X.2 (x4 + 3).toNatClampNeg) (X.2 (x4 + 4).toNatClampNeg) (X.2 (x4 + 5).toNatClampNeg)) fun v6 s7 => g_bd (f137 s7 (X.2 (x4 + 1).toNatClampNeg) (X.2 (x4 + 2).toNatClampNeg) (X.2 (x4 + 3).toNatClampNeg) (X.2 (x4 + 4).toNatClampNeg) (X.2 (x4 + 5).toNatClampNeg)) fun v8 s9 => if v6 = v8 then (some (.inl (x4 + 7, (s9, ex)))) else (some (.inr (0, (s9, ex)))) else none else none else none else none else none)
set_option maxHeartbeats 10000000 in
set_option maxRecDepth 100000 in
theorem P251_25 {d ex : Nat} {rr : m_R} {s : g_S} {x4 : Int32} {u5 u6 : Option Value} {z : (Int32 × (g_S × Nat)) ⊕ (Int32 × (g_S × Nat))} (H : f251_25 X s ex x4 = some z) (hd : 86 ≤ d) (K0 : ∀ S : Int32 × (g_S × Nat), z = .inl S → ∀ u5 u6 : Option Value, n_R X (d + 1) 251 13 [some (.ref 1000000), some (.ref 0), some (.ref 199), some (.ref 564), some (.int S.1), u5, u6] [] (g_M S.2.1 S.2.2) rr) (Kr : ∀ q, z = .inr q → g_rL q = rr) : n_R X (d + 1) 251 25 [some (.ref 1000000), some (.ref 0), some (.ref 199), some (.ref 564), some (.int x4), u5, u6] [] (g_M s ex) rr := by
  unfold f251_25 at H
  refine g_go 5 md_251 (i1 := 30) rfl ?_
  obtain ⟨h1, H⟩ := g_gd H
  refine n_scr (n_q md_251 rfl) h1 ?_
  refine g_go 4 md_251 (i1 := 35) rfl ?_
  obtain ⟨h2, H⟩ := g_gd H
  refine n_scr (n_q md_251 rfl) h2 ?_
  refine g_go 4 md_251 (i1 := 40) rfl ?_
  obtain ⟨h3, H⟩ := g_gd H
  refine n_scr (n_q md_251 rfl) h3 ?_
  refine g_go 4 md_251 (i1 := 45) rfl ?_
  obtain ⟨h4, H⟩ := g_gd H
  refine n_scr (n_q md_251 rfl) h4 ?_
  refine g_go 4 md_251 (i1 := 50) rfl ?_
  obtain ⟨h5, H⟩ := g_gd H
  refine n_scr (n_q md_251 rfl) h5 ?_
  obtain ⟨v6, s7, hv6, H⟩ := g_bdp H
  refine n_callv (n_q md_251 rfl) (As := [.ref 0, .int (X.2 (x4 + 1).toNatClampNeg), .int (X.2 (x4 + 2).toNatClampNeg), .int (X.2 (x4 + 3).toNatClampNeg), .int (X.2 (x4 + 4).toNatClampNeg), .int (X.2 (x4 + 5).toNatClampNeg)]) (rest := []) rfl rfl (Nat.le_of_ble_eq_true rfl) rfl (g_recv (b := 0) rfl t_0 rfl) (C78 (by omega) hv6) ?_
  refine g_go 5 md_251 (i1 := 57) rfl ?_
  refine n_scr (n_q md_251 rfl) h1 ?_
  refine g_go 4 md_251 (i1 := 62) rfl ?_
  refine n_scr (n_q md_251 rfl) h2 ?_
  refine g_go 4 md_251 (i1 := 67) rfl ?_
  refine n_scr (n_q md_251 rfl) h3 ?_
  refine g_go 4 md_251 (i1 := 72) rfl ?_
  refine n_scr (n_q md_251 rfl) h4 ?_
  refine g_go 4 md_251 (i1 := 77) rfl ?_
  refine n_scr (n_q md_251 rfl) h5 ?_
  obtain ⟨v8, s9, hv8, H⟩ := g_bdp H
  refine n_callv (n_q md_251 rfl) (As := [.ref 199, .int (X.2 (x4 + 1).toNatClampNeg), .int (X.2 (x4 + 2).toNatClampNeg), .int (X.2 (x4 + 3).toNatClampNeg), .int (X.2 (x4 + 4).toNatClampNeg), .int (X.2 (x4 + 5).toNatClampNeg)]) (rest := [.int v6]) rfl rfl (Nat.le_of_ble_eq_true rfl) rfl (g_recv (b := 0) rfl t_199 rfl) (C137 (by omega) hv8) ?_
  by_cases h10 : v6 = v8
  · rw [if_pos h10] at H
    refine n_cmpT (n_q md_251 rfl) (decide_eq_true h10) ?_
    refine g_go 2 md_251 (i1 := 13) (ls1 := [some (.ref 1000000), some (.ref 0), some (.ref 199), some (.ref 564), some (.int (x4 + 7)), u5, u6]) rfl ?_
    cases H
    exact K0 (x4 + 7, (s9, ex)) rfl _ _
  · rw [if_neg h10] at H
    refine n_cmpF (n_q md_251 rfl) (fun e1 => h10 (of_decide_eq_true e1)) ?_
    refine g_go 1 md_251 (i1 := 81) rfl ?_
    cases H
    rw [← Kr _ rfl]
    exact n_iret (n_q md_251 rfl) (Or.inr rfl)
noncomputable def f251_82 (X : m_X) (s : g_S) (ex : Nat) (x4 : Int32) : Option ((Int32 × (g_S × Nat)) ⊕ (Int32 × (g_S × Nat))) := (if m_in (x4 + 1) X.1 = true then g_wd (f222 s (X.2 (x4 + 1).toNatClampNeg)) fun v2 k4 s3 => g_bd (f165 s3 (X.2 (x4 + 1).toNatClampNeg)) fun v5 s6 => (f133 s6).bind fun v7 => if v7 = v2 then (if v2 = 0 then (if (lg_cmp ((s6 564 0).toInt64) v5.toInt64) = 0 then (some (.inl (x4 + 7, (s6, ex + k4)))) else (some (.inr (0, (s6, ex + k4))))) else (some (.inl (x4 + 7, (s6, ex + k4))))) else (some (.inr (0, (s6, ex + k4)))) else none)
set_option maxHeartbeats 10000000 in
set_option maxRecDepth 100000 in
theorem P251_82 {d ex : Nat} {rr : m_R} {s : g_S} {x4 : Int32} {u5 u6 : Option Value} {z : (Int32 × (g_S × Nat)) ⊕ (Int32 × (g_S × Nat))} (H : f251_82 X s ex x4 = some z) (hd : 86 ≤ d) (K0 : ∀ S : Int32 × (g_S × Nat), z = .inl S → ∀ u5 u6 : Option Value, n_R X (d + 1) 251 13 [some (.ref 1000000), some (.ref 0), some (.ref 199), some (.ref 564), some (.int S.1), u5, u6] [] (g_M S.2.1 S.2.2) rr) (Kr : ∀ q, z = .inr q → g_rL q = rr) : n_R X (d + 1) 251 82 [some (.ref 1000000), some (.ref 0), some (.ref 199), some (.ref 564), some (.int x4), u5, u6] [] (g_M s ex) rr := by
  unfold f251_82 at H
  refine g_go 5 md_251 (i1 := 87) rfl ?_
  obtain ⟨h1, H⟩ := g_gd H
  refine n_scr (n_q md_251 rfl) h1 ?_
  refine g_go 1 md_251 (i1 := 89) rfl ?_
  obtain ⟨v2, k4, s3, hv2, H⟩ := g_wdp H
  refine n_callv (n_q md_251 rfl) (As := [.ref 0, .int (X.2 (x4 + 1).toNatClampNeg), .ref 564]) (rest := []) rfl rfl (Nat.le_of_ble_eq_true rfl) rfl rfl (C222 (by omega) hv2) ?_
  refine g_go 6 md_251 (i1 := 96) (ls1 := [some (.ref 1000000), some (.ref 0), some (.ref 199), some (.ref 564), some (.int x4), some (.int v2), u6]) rfl ?_
  refine n_scr (n_q md_251 rfl) h1 ?_
  obtain ⟨v5, s6, hv5, H⟩ := g_bdp H
  refine n_callv (n_q md_251 rfl) (As := [.ref 199, .int (X.2 (x4 + 1).toNatClampNeg)]) (rest := []) rfl rfl (Nat.le_of_ble_eq_true rfl) rfl (g_recv (b := 0) rfl t_199 rfl) (C165 (by omega) hv5) ?_
  refine g_go 2 md_251 (i1 := 100) (ls1 := [some (.ref 1000000), some (.ref 0), some (.ref 199), some (.ref 564), some (.int x4), some (.int v2), some (.int v5)]) rfl ?_
  obtain ⟨v7, hv7, H⟩ := g_bind H
  refine n_callv (n_q md_251 rfl) (As := [.ref 199]) (rest := []) rfl rfl (Nat.le_of_ble_eq_true rfl) rfl (g_recv (b := 0) rfl t_199 rfl) (C133 (by omega) hv7) ?_
  refine g_go 1 md_251 (i1 := 102) rfl ?_
  by_cases h8 : v7 = v2
  · rw [if_pos h8] at H
    refine n_cmpT (n_q md_251 rfl) (decide_eq_true h8) ?_
    refine g_go 1 md_251 (i1 := 106) rfl ?_
    by_cases h9 : v2 = 0
    · rw [if_pos h9] at H
      refine n_ifF (n_q md_251 rfl) (fun e1 => of_decide_eq_true e1 h9) ?_
      refine g_go 2 md_251 (i1 := 109) rfl ?_
      refine g_lald (n_q md_251 rfl) ?_
      refine g_go 2 md_251 (i1 := 112) rfl ?_
      refine n_go (n_q md_251 rfl) (fun _ => rfl) ?_
      by_cases h10 : (lg_cmp ((s6 564 0).toInt64) v5.toInt64) = 0
      · rw [if_pos h10] at H
        refine n_ifT (n_q md_251 rfl) (decide_eq_true h10) ?_
        refine g_go 3 md_251 (i1 := 13) (ls1 := [some (.ref 1000000), some (.ref 0), some (.ref 199), some (.ref 564), some (.int (x4 + 7)), some (.int v2), some (.int v5)]) rfl ?_
        cases H
        exact K0 (x4 + 7, (s6, ex + k4)) rfl _ _
      · rw [if_neg h10] at H
        refine n_ifF (n_q md_251 rfl) (fun e1 => h10 (of_decide_eq_true e1)) ?_
        refine g_go 1 md_251 (i1 := 115) rfl ?_
        cases H
        rw [← Kr _ rfl]
        exact n_iret (n_q md_251 rfl) (Or.inr rfl)
    · rw [if_neg h9] at H
      refine n_ifT (n_q md_251 rfl) (decide_eq_true h9) ?_
      refine g_go 3 md_251 (i1 := 13) (ls1 := [some (.ref 1000000), some (.ref 0), some (.ref 199), some (.ref 564), some (.int (x4 + 7)), some (.int v2), some (.int v5)]) rfl ?_
      cases H
      exact K0 (x4 + 7, (s6, ex + k4)) rfl _ _
  · rw [if_neg h8] at H
    refine n_cmpF (n_q md_251 rfl) (fun e1 => h8 (of_decide_eq_true e1)) ?_
    refine g_go 1 md_251 (i1 := 104) rfl ?_
    cases H
    rw [← Kr _ rfl]
    exact n_iret (n_q md_251 rfl) (Or.inr rfl)
noncomputable def f251_117 (X : m_X) (s : g_S) (ex : Nat) (x4 : Int32) : Option ((Int32 × (g_S × Nat)) ⊕ (Int32 × (g_S × Nat))) := ((f80 s).bind fun v1 => g_bd (f166 s) fun v2 s3 => if v1 = v2 then (some (.inl (x4 + 7, (s3, ex)))) else (some (.inr (0, (s3, ex)))))
set_option maxHeartbeats 10000000 in
set_option maxRecDepth 100000 in
theorem P251_117 {d ex : Nat} {rr : m_R} {s : g_S} {x4 : Int32} {u5 u6 : Option Value} {z : (Int32 × (g_S × Nat)) ⊕ (Int32 × (g_S × Nat))} (H : f251_117 X s ex x4 = some z) (hd : 86 ≤ d) (K0 : ∀ S : Int32 × (g_S × Nat), z = .inl S → ∀ u5 u6 : Option Value, n_R X (d + 1) 251 13 [some (.ref 1000000), some (.ref 0), some (.ref 199), some (.ref 564), some (.int S.1), u5, u6] [] (g_M S.2.1 S.2.2) rr) (Kr : ∀ q, z = .inr q → g_rL q = rr) : n_R X (d + 1) 251 117 [some (.ref 1000000), some (.ref 0), some (.ref 199), some (.ref 564), some (.int x4), u5, u6] [] (g_M s ex) rr := by
  unfold f251_117 at H
  refine g_go 1 md_251 (i1 := 118) rfl ?_
  obtain ⟨v1, hv1, H⟩ := g_bind H
  refine n_callv (n_q md_251 rfl) (As := [.ref 0]) (rest := []) rfl rfl (Nat.le_of_ble_eq_true rfl) rfl (g_recv (b := 0) rfl t_0 rfl) (C80 (by omega) hv1) ?_
  refine g_go 1 md_251 (i1 := 120) rfl ?_
  obtain ⟨v2, s3, hv2, H⟩ := g_bdp H
  refine n_callv (n_q md_251 rfl) (As := [.ref 199]) (rest := [.int v1]) rfl rfl (Nat.le_of_ble_eq_true rfl) rfl (g_recv (b := 0) rfl t_199 rfl) (C166 (by omega) hv2) ?_
  by_cases h4 : v1 = v2
  · rw [if_pos h4] at H
    refine n_cmpT (n_q md_251 rfl) (decide_eq_true h4) ?_
    refine g_go 2 md_251 (i1 := 13) (ls1 := [some (.ref 1000000), some (.ref 0), some (.ref 199), some (.ref 564), some (.int (x4 + 7)), u5, u6]) rfl ?_
    cases H
    exact K0 (x4 + 7, (s3, ex)) rfl _ _
  · rw [if_neg h4] at H
    refine n_cmpF (n_q md_251 rfl) (fun e1 => h4 (of_decide_eq_true e1)) ?_
    refine g_go 1 md_251 (i1 := 123) rfl ?_
    cases H
    rw [← Kr _ rfl]
    exact n_iret (n_q md_251 rfl) (Or.inr rfl)
noncomputable def f251_124 (X : m_X) (s : g_S) (ex : Nat) (x4 : Int32) : Option ((Int32 × (g_S × Nat)) ⊕ (Int32 × (g_S × Nat))) := (if m_in (x4 + 1) X.1 = true then g_wd (f223 s (X.2 (x4 + 1).toNatClampNeg)) fun v2 k4 s3 => g_bd (f167 s3 (X.2 (x4 + 1).toNatClampNeg)) fun v5 s6 => (f133 s6).bind fun v7 => if v7 = v2 then (if v2 = 0 then (if (lg_cmp ((s6 564 0).toInt64) v5.toInt64) = 0 then (some (.inl (x4 + 7, (s6, ex + k4)))) else (some (.inr (0, (s6, ex + k4))))) else (some (.inl (x4 + 7, (s6, ex + k4))))) else (some (.inr (0, (s6, ex + k4)))) else none)
set_option maxHeartbeats 10000000 in
set_option maxRecDepth 100000 in
theorem P251_124 {d ex : Nat} {rr : m_R} {s : g_S} {x4 : Int32} {u5 u6 : Option Value} {z : (Int32 × (g_S × Nat)) ⊕ (Int32 × (g_S × Nat))} (H : f251_124 X s ex x4 = some z) (hd : 86 ≤ d) (K0 : ∀ S : Int32 × (g_S × Nat), z = .inl S → ∀ u5 u6 : Option Value, n_R X (d + 1) 251 13 [some (.ref 1000000), some (.ref 0), some (.ref 199), some (.ref 564), some (.int S.1), u5, u6] [] (g_M S.2.1 S.2.2) rr) (Kr : ∀ q, z = .inr q → g_rL q = rr) : n_R X (d + 1) 251 124 [some (.ref 1000000), some (.ref 0), some (.ref 199), some (.ref 564), some (.int x4), u5, u6] [] (g_M s ex) rr := by
  unfold f251_124 at H
  refine g_go 5 md_251 (i1 := 129) rfl ?_
  obtain ⟨h1, H⟩ := g_gd H
  refine n_scr (n_q md_251 rfl) h1 ?_
  refine g_go 1 md_251 (i1 := 131) rfl ?_
  obtain ⟨v2, k4, s3, hv2, H⟩ := g_wdp H
  refine n_callv (n_q md_251 rfl) (As := [.ref 0, .int (X.2 (x4 + 1).toNatClampNeg), .ref 564]) (rest := []) rfl rfl (Nat.le_of_ble_eq_true rfl) rfl rfl (C223 (by omega) hv2) ?_
  refine g_go 6 md_251 (i1 := 138) (ls1 := [some (.ref 1000000), some (.ref 0), some (.ref 199), some (.ref 564), some (.int x4), some (.int v2), u6]) rfl ?_
  refine n_scr (n_q md_251 rfl) h1 ?_
  obtain ⟨v5, s6, hv5, H⟩ := g_bdp H
  refine n_callv (n_q md_251 rfl) (As := [.ref 199, .int (X.2 (x4 + 1).toNatClampNeg)]) (rest := []) rfl rfl (Nat.le_of_ble_eq_true rfl) rfl (g_recv (b := 0) rfl t_199 rfl) (C167 (by omega) hv5) ?_
  refine g_go 2 md_251 (i1 := 142) (ls1 := [some (.ref 1000000), some (.ref 0), some (.ref 199), some (.ref 564), some (.int x4), some (.int v2), some (.int v5)]) rfl ?_
  obtain ⟨v7, hv7, H⟩ := g_bind H
  refine n_callv (n_q md_251 rfl) (As := [.ref 199]) (rest := []) rfl rfl (Nat.le_of_ble_eq_true rfl) rfl (g_recv (b := 0) rfl t_199 rfl) (C133 (by omega) hv7) ?_
  refine g_go 1 md_251 (i1 := 144) rfl ?_
  by_cases h8 : v7 = v2
  · rw [if_pos h8] at H
    refine n_cmpT (n_q md_251 rfl) (decide_eq_true h8) ?_
    refine g_go 1 md_251 (i1 := 148) rfl ?_
    by_cases h9 : v2 = 0
    · rw [if_pos h9] at H
      refine n_ifF (n_q md_251 rfl) (fun e1 => of_decide_eq_true e1 h9) ?_
      refine g_go 2 md_251 (i1 := 151) rfl ?_
      refine g_lald (n_q md_251 rfl) ?_
      refine g_go 2 md_251 (i1 := 154) rfl ?_
      refine n_go (n_q md_251 rfl) (fun _ => rfl) ?_
      by_cases h10 : (lg_cmp ((s6 564 0).toInt64) v5.toInt64) = 0
      · rw [if_pos h10] at H
        refine n_ifT (n_q md_251 rfl) (decide_eq_true h10) ?_
        refine g_go 3 md_251 (i1 := 13) (ls1 := [some (.ref 1000000), some (.ref 0), some (.ref 199), some (.ref 564), some (.int (x4 + 7)), some (.int v2), some (.int v5)]) rfl ?_
        cases H
        exact K0 (x4 + 7, (s6, ex + k4)) rfl _ _
      · rw [if_neg h10] at H
        refine n_ifF (n_q md_251 rfl) (fun e1 => h10 (of_decide_eq_true e1)) ?_
        refine g_go 1 md_251 (i1 := 157) rfl ?_
        cases H
        rw [← Kr _ rfl]
        exact n_iret (n_q md_251 rfl) (Or.inr rfl)
    · rw [if_neg h9] at H
      refine n_ifT (n_q md_251 rfl) (decide_eq_true h9) ?_
      refine g_go 3 md_251 (i1 := 13) (ls1 := [some (.ref 1000000), some (.ref 0), some (.ref 199), some (.ref 564), some (.int (x4 + 7)), some (.int v2), some (.int v5)]) rfl ?_
      cases H
      exact K0 (x4 + 7, (s6, ex + k4)) rfl _ _
  · rw [if_neg h8] at H
    refine n_cmpF (n_q md_251 rfl) (fun e1 => h8 (of_decide_eq_true e1)) ?_
    refine g_go 1 md_251 (i1 := 146) rfl ?_
    cases H
    rw [← Kr _ rfl]
    exact n_iret (n_q md_251 rfl) (Or.inr rfl)
noncomputable def f251_159 (X : m_X) (s : g_S) (ex : Nat) (x4 : Int32) : Option ((Int32 × (g_S × Nat)) ⊕ (Int32 × (g_S × Nat))) := (if m_in (x4 + 1) X.1 = true then if m_in (x4 + 2) X.1 = true then if m_in (x4 + 3) X.1 = true then if m_in (x4 + 4) X.1 = true then if m_in (x4 + 5) X.1 = true then if m_in (x4 + 6) X.1 = true then g_wd (f224 s (X.2 (x4 + 1).toNatClampNeg) (X.2 (x4 + 2).toNatClampNeg) (X.2 (x4 + 3).toNatClampNeg) (X.2 (x4 + 4).toNatClampNeg) (X.2 (x4 + 5).toNatClampNeg) (X.2 (x4 + 6).toNatClampNeg)) fun v7 k9 s8 => g_bd (f170 s8 (X.2 (x4 + 1).toNatClampNeg) (X.2 (x4 + 2).toNatClampNeg) (X.2 (x4 + 3).toNatClampNeg) (X.2 (x4 + 4).toNatClampNeg) (X.2 (x4 + 5).toNatClampNeg) (X.2 (x4 + 6).toNatClampNeg)) fun v10 s11 => (f133 s11).bind fun v12 => if v12 = v7 then (if v7 = 0 then (if (lg_cmp ((s11 564 0).toInt64) v10.toInt64) = 0 then (some (.inl (x4 + 7, (s11, ex + k9)))) else (some (.inr (0, (s11, ex + k9))))) else (some (.inl (x4 + 7, (s11, ex + k9))))) else (some (.inr (0, (s11, ex + k9)))) else none else none else none else none else none else none)
set_option maxHeartbeats 10000000 in
set_option maxRecDepth 100000 in
theorem P251_159 {d ex : Nat} {rr : m_R} {s : g_S} {x4 : Int32} {u5 u6 : Option Value} {z : (Int32 × (g_S × Nat)) ⊕ (Int32 × (g_S × Nat))} (H : f251_159 X s ex x4 = some z) (hd : 86 ≤ d) (K0 : ∀ S : Int32 × (g_S × Nat), z = .inl S → ∀ u5 u6 : Option Value, n_R X (d + 1) 251 13 [some (.ref 1000000), some (.ref 0), some (.ref 199), some (.ref 564), some (.int S.1), u5, u6] [] (g_M S.2.1 S.2.2) rr) (Kr : ∀ q, z = .inr q → g_rL q = rr) : n_R X (d + 1) 251 159 [some (.ref 1000000), some (.ref 0), some (.ref 199), some (.ref 564), some (.int x4), u5, u6] [] (g_M s ex) rr := by
  unfold f251_159 at H
  refine g_go 5 md_251 (i1 := 164) rfl ?_
  obtain ⟨h1, H⟩ := g_gd H
  refine n_scr (n_q md_251 rfl) h1 ?_
  refine g_go 4 md_251 (i1 := 169) rfl ?_
  obtain ⟨h2, H⟩ := g_gd H
  refine n_scr (n_q md_251 rfl) h2 ?_
  refine g_go 4 md_251 (i1 := 174) rfl ?_
  obtain ⟨h3, H⟩ := g_gd H
  refine n_scr (n_q md_251 rfl) h3 ?_
  refine g_go 4 md_251 (i1 := 179) rfl ?_
  obtain ⟨h4, H⟩ := g_gd H
  refine n_scr (n_q md_251 rfl) h4 ?_
  refine g_go 4 md_251 (i1 := 184) rfl ?_
  obtain ⟨h5, H⟩ := g_gd H
  refine n_scr (n_q md_251 rfl) h5 ?_
  refine g_go 4 md_251 (i1 := 189) rfl ?_
  obtain ⟨h6, H⟩ := g_gd H
  refine n_scr (n_q md_251 rfl) h6 ?_
  refine g_go 1 md_251 (i1 := 191) rfl ?_
  obtain ⟨v7, k9, s8, hv7, H⟩ := g_wdp H
  refine n_callv (n_q md_251 rfl) (As := [.ref 0, .int (X.2 (x4 + 1).toNatClampNeg), .int (X.2 (x4 + 2).toNatClampNeg), .int (X.2 (x4 + 3).toNatClampNeg), .int (X.2 (x4 + 4).toNatClampNeg), .int (X.2 (x4 + 5).toNatClampNeg), .int (X.2 (x4 + 6).toNatClampNeg), .ref 564]) (rest := []) rfl rfl (Nat.le_of_ble_eq_true rfl) rfl rfl (C224 (by omega) hv7) ?_
  refine g_go 6 md_251 (i1 := 198) (ls1 := [some (.ref 1000000), some (.ref 0), some (.ref 199), some (.ref 564), some (.int x4), some (.int v7), u6]) rfl ?_
  refine n_scr (n_q md_251 rfl) h1 ?_
  refine g_go 4 md_251 (i1 := 203) rfl ?_
  refine n_scr (n_q md_251 rfl) h2 ?_
  refine g_go 4 md_251 (i1 := 208) rfl ?_
  refine n_scr (n_q md_251 rfl) h3 ?_
  refine g_go 4 md_251 (i1 := 213) rfl ?_
  refine n_scr (n_q md_251 rfl) h4 ?_
  refine g_go 4 md_251 (i1 := 218) rfl ?_
  refine n_scr (n_q md_251 rfl) h5 ?_
  refine g_go 4 md_251 (i1 := 223) rfl ?_
  refine n_scr (n_q md_251 rfl) h6 ?_
  obtain ⟨v10, s11, hv10, H⟩ := g_bdp H
  refine n_callv (n_q md_251 rfl) (As := [.ref 199, .int (X.2 (x4 + 1).toNatClampNeg), .int (X.2 (x4 + 2).toNatClampNeg), .int (X.2 (x4 + 3).toNatClampNeg), .int (X.2 (x4 + 4).toNatClampNeg), .int (X.2 (x4 + 5).toNatClampNeg), .int (X.2 (x4 + 6).toNatClampNeg)]) (rest := []) rfl rfl (Nat.le_of_ble_eq_true rfl) rfl (g_recv (b := 0) rfl t_199 rfl) (C170 (by omega) hv10) ?_
  refine g_go 2 md_251 (i1 := 227) (ls1 := [some (.ref 1000000), some (.ref 0), some (.ref 199), some (.ref 564), some (.int x4), some (.int v7), some (.int v10)]) rfl ?_
  obtain ⟨v12, hv12, H⟩ := g_bind H
  refine n_callv (n_q md_251 rfl) (As := [.ref 199]) (rest := []) rfl rfl (Nat.le_of_ble_eq_true rfl) rfl (g_recv (b := 0) rfl t_199 rfl) (C133 (by omega) hv12) ?_
  refine g_go 1 md_251 (i1 := 229) rfl ?_
  by_cases h13 : v12 = v7
  · rw [if_pos h13] at H
    refine n_cmpT (n_q md_251 rfl) (decide_eq_true h13) ?_
    refine g_go 1 md_251 (i1 := 233) rfl ?_
    by_cases h14 : v7 = 0
    · rw [if_pos h14] at H
      refine n_ifF (n_q md_251 rfl) (fun e1 => of_decide_eq_true e1 h14) ?_
      refine g_go 2 md_251 (i1 := 236) rfl ?_
      refine g_lald (n_q md_251 rfl) ?_
      refine g_go 2 md_251 (i1 := 239) rfl ?_
      refine n_go (n_q md_251 rfl) (fun _ => rfl) ?_
      by_cases h15 : (lg_cmp ((s11 564 0).toInt64) v10.toInt64) = 0
      · rw [if_pos h15] at H
        refine n_ifT (n_q md_251 rfl) (decide_eq_true h15) ?_
        refine g_go 3 md_251 (i1 := 13) (ls1 := [some (.ref 1000000), some (.ref 0), some (.ref 199), some (.ref 564), some (.int (x4 + 7)), some (.int v7), some (.int v10)]) rfl ?_
        cases H
        exact K0 (x4 + 7, (s11, ex + k9)) rfl _ _
      · rw [if_neg h15] at H
        refine n_ifF (n_q md_251 rfl) (fun e1 => h15 (of_decide_eq_true e1)) ?_
        refine g_go 1 md_251 (i1 := 242) rfl ?_
        cases H
        rw [← Kr _ rfl]
        exact n_iret (n_q md_251 rfl) (Or.inr rfl)
    · rw [if_neg h14] at H
      refine n_ifT (n_q md_251 rfl) (decide_eq_true h14) ?_
      refine g_go 3 md_251 (i1 := 13) (ls1 := [some (.ref 1000000), some (.ref 0), some (.ref 199), some (.ref 564), some (.int (x4 + 7)), some (.int v7), some (.int v10)]) rfl ?_
      cases H
      exact K0 (x4 + 7, (s11, ex + k9)) rfl _ _
  · rw [if_neg h13] at H
    refine n_cmpF (n_q md_251 rfl) (fun e1 => h13 (of_decide_eq_true e1)) ?_
    refine g_go 1 md_251 (i1 := 231) rfl ?_
    cases H
    rw [← Kr _ rfl]
    exact n_iret (n_q md_251 rfl) (Or.inr rfl)
noncomputable def f251_244 (X : m_X) (s : g_S) (ex : Nat) (x4 : Int32) : Option ((Int32 × (g_S × Nat)) ⊕ (Int32 × (g_S × Nat))) := (if m_in (x4 + 1) X.1 = true then if m_in (x4 + 2) X.1 = true then if m_in (x4 + 3) X.1 = true then g_wd (f225 s (X.2 (x4 + 1).toNatClampNeg) (X.2 (x4 + 2).toNatClampNeg) (X.2 (x4 + 3).toNatClampNeg)) fun v4 k6 s5 => g_bd (f171 s5 (X.2 (x4 + 1).toNatClampNeg) (X.2 (x4 + 2).toNatClampNeg) (X.2 (x4 + 3).toNatClampNeg)) fun v7 s8 => (f133 s8).bind fun v9 => if v9 = v4 then (if v4 = 0 then (if v7 = 0 then (if (lg_cmp ((s8 564 0).toInt64) (Int64.ofNat 0)) = 0 then (some (.inl (x4 + 7, (s8, ex + k6)))) else (some (.inr (0, (s8, ex + k6))))) else (if (lg_cmp ((s8 564 0).toInt64) (Int64.ofNat 1)) = 0 then (some (.inl (x4 + 7, (s8, ex + k6)))) else (some (.inr (0, (s8, ex + k6)))))) else (some (.inl (x4 + 7, (s8, ex + k6))))) else (some (.inr (0, (s8, ex + k6)))) else none else none else none)
set_option maxHeartbeats 10000000 in
set_option maxRecDepth 100000 in
theorem P251_244 {d ex : Nat} {rr : m_R} {s : g_S} {x4 : Int32} {u5 u6 : Option Value} {z : (Int32 × (g_S × Nat)) ⊕ (Int32 × (g_S × Nat))} (H : f251_244 X s ex x4 = some z) (hd : 86 ≤ d) (K0 : ∀ S : Int32 × (g_S × Nat), z = .inl S → ∀ u5 u6 : Option Value, n_R X (d + 1) 251 13 [some (.ref 1000000), some (.ref 0), some (.ref 199), some (.ref 564), some (.int S.1), u5, u6] [] (g_M S.2.1 S.2.2) rr) (Kr : ∀ q, z = .inr q → g_rL q = rr) : n_R X (d + 1) 251 244 [some (.ref 1000000), some (.ref 0), some (.ref 199), some (.ref 564), some (.int x4), u5, u6] [] (g_M s ex) rr := by
  unfold f251_244 at H
  refine g_go 5 md_251 (i1 := 249) rfl ?_
  obtain ⟨h1, H⟩ := g_gd H
  refine n_scr (n_q md_251 rfl) h1 ?_
  refine g_go 4 md_251 (i1 := 254) rfl ?_
  obtain ⟨h2, H⟩ := g_gd H
  refine n_scr (n_q md_251 rfl) h2 ?_
  refine g_go 4 md_251 (i1 := 259) rfl ?_
  obtain ⟨h3, H⟩ := g_gd H
  refine n_scr (n_q md_251 rfl) h3 ?_
  refine g_go 1 md_251 (i1 := 261) rfl ?_
  obtain ⟨v4, k6, s5, hv4, H⟩ := g_wdp H
  refine n_callv (n_q md_251 rfl) (As := [.ref 0, .int (X.2 (x4 + 1).toNatClampNeg), .int (X.2 (x4 + 2).toNatClampNeg), .int (X.2 (x4 + 3).toNatClampNeg), .ref 564]) (rest := []) rfl rfl (Nat.le_of_ble_eq_true rfl) rfl rfl (C225 (by omega) hv4) ?_
  refine g_go 6 md_251 (i1 := 268) (ls1 := [some (.ref 1000000), some (.ref 0), some (.ref 199), some (.ref 564), some (.int x4), some (.int v4), u6]) rfl ?_
  refine n_scr (n_q md_251 rfl) h1 ?_
  refine g_go 4 md_251 (i1 := 273) rfl ?_
  refine n_scr (n_q md_251 rfl) h2 ?_
  refine g_go 4 md_251 (i1 := 278) rfl ?_
  refine n_scr (n_q md_251 rfl) h3 ?_
  obtain ⟨v7, s8, hv7, H⟩ := g_bdp H
  refine n_callv (n_q md_251 rfl) (As := [.ref 199, .int (X.2 (x4 + 1).toNatClampNeg), .int (X.2 (x4 + 2).toNatClampNeg), .int (X.2 (x4 + 3).toNatClampNeg)]) (rest := []) rfl rfl (Nat.le_of_ble_eq_true rfl) rfl (g_recv (b := 0) rfl t_199 rfl) (C171 (by omega) hv7) ?_
  refine g_go 2 md_251 (i1 := 282) (ls1 := [some (.ref 1000000), some (.ref 0), some (.ref 199), some (.ref 564), some (.int x4), some (.int v4), some (.int v7)]) rfl ?_
  obtain ⟨v9, hv9, H⟩ := g_bind H
  refine n_callv (n_q md_251 rfl) (As := [.ref 199]) (rest := []) rfl rfl (Nat.le_of_ble_eq_true rfl) rfl (g_recv (b := 0) rfl t_199 rfl) (C133 (by omega) hv9) ?_
  refine g_go 1 md_251 (i1 := 284) rfl ?_
  by_cases h10 : v9 = v4
  · rw [if_pos h10] at H
    refine n_cmpT (n_q md_251 rfl) (decide_eq_true h10) ?_
    refine g_go 1 md_251 (i1 := 288) rfl ?_
    by_cases h11 : v4 = 0
    · rw [if_pos h11] at H
      refine n_ifF (n_q md_251 rfl) (fun e1 => of_decide_eq_true e1 h11) ?_
      refine g_go 2 md_251 (i1 := 291) rfl ?_
      refine g_lald (n_q md_251 rfl) ?_
      refine g_go 1 md_251 (i1 := 293) rfl ?_
      by_cases h12 : v7 = 0
      · rw [if_pos h12] at H
        refine n_ifT (n_q md_251 rfl) (decide_eq_true h12) ?_
        refine g_go 1 md_251 (i1 := 297) rfl ?_
        refine n_go (n_q md_251 rfl) (fun _ => rfl) ?_
        by_cases h13 : (lg_cmp ((s8 564 0).toInt64) (Int64.ofNat 0)) = 0
        · rw [if_pos h13] at H
          refine n_ifT (n_q md_251 rfl) (decide_eq_true h13) ?_
          refine g_go 3 md_251 (i1 := 13) (ls1 := [some (.ref 1000000), some (.ref 0), some (.ref 199), some (.ref 564), some (.int (x4 + 7)), some (.int v4), some (.int v7)]) rfl ?_
          cases H
          exact K0 (x4 + 7, (s8, ex + k6)) rfl _ _
        · rw [if_neg h13] at H
          refine n_ifF (n_q md_251 rfl) (fun e1 => h13 (of_decide_eq_true e1)) ?_
          refine g_go 1 md_251 (i1 := 300) rfl ?_
          cases H
          rw [← Kr _ rfl]
          exact n_iret (n_q md_251 rfl) (Or.inr rfl)
      · rw [if_neg h12] at H
        refine n_ifF (n_q md_251 rfl) (fun e1 => h12 (of_decide_eq_true e1)) ?_
        refine g_go 2 md_251 (i1 := 297) rfl ?_
        refine n_go (n_q md_251 rfl) (fun _ => rfl) ?_
        by_cases h13 : (lg_cmp ((s8 564 0).toInt64) (Int64.ofNat 1)) = 0
        · rw [if_pos h13] at H
          refine n_ifT (n_q md_251 rfl) (decide_eq_true h13) ?_
          refine g_go 3 md_251 (i1 := 13) (ls1 := [some (.ref 1000000), some (.ref 0), some (.ref 199), some (.ref 564), some (.int (x4 + 7)), some (.int v4), some (.int v7)]) rfl ?_
          cases H
          exact K0 (x4 + 7, (s8, ex + k6)) rfl _ _
        · rw [if_neg h13] at H
          refine n_ifF (n_q md_251 rfl) (fun e1 => h13 (of_decide_eq_true e1)) ?_
          refine g_go 1 md_251 (i1 := 300) rfl ?_
          cases H
          rw [← Kr _ rfl]
          exact n_iret (n_q md_251 rfl) (Or.inr rfl)
    · rw [if_neg h11] at H
      refine n_ifT (n_q md_251 rfl) (decide_eq_true h11) ?_
      refine g_go 3 md_251 (i1 := 13) (ls1 := [some (.ref 1000000), some (.ref 0), some (.ref 199), some (.ref 564), some (.int (x4 + 7)), some (.int v4), some (.int v7)]) rfl ?_
      cases H
      exact K0 (x4 + 7, (s8, ex + k6)) rfl _ _
  · rw [if_neg h10] at H
    refine n_cmpF (n_q md_251 rfl) (fun e1 => h10 (of_decide_eq_true e1)) ?_
    refine g_go 1 md_251 (i1 := 286) rfl ?_
    cases H
    rw [← Kr _ rfl]
    exact n_iret (n_q md_251 rfl) (Or.inr rfl)
noncomputable def f251_302 (X : m_X) (s : g_S) (ex : Nat) (x4 : Int32) : Option ((Int32 × (g_S × Nat)) ⊕ (Int32 × (g_S × Nat))) := (if m_in (x4 + 1) X.1 = true then if m_in (x4 + 2) X.1 = true then if m_in (x4 + 3) X.1 = true then if m_in (x4 + 4) X.1 = true then if m_in (x4 + 5) X.1 = true then if (X.2 (x4 + 5).toNatClampNeg) = 0 then (g_wd (f226 s (X.2 (x4 + 1).toNatClampNeg) (X.2 (x4 + 2).toNatClampNeg) (X.2 (x4 + 3).toNatClampNeg) (X.2 (x4 + 4).toNatClampNeg) 0) fun v7 k9 s8 => if (X.2 (x4 + 5).toNatClampNeg) = 0 then (g_bd (f172 s8 (X.2 (x4 + 1).toNatClampNeg) (X.2 (x4 + 2).toNatClampNeg) (X.2 (x4 + 3).toNatClampNeg) (X.2 (x4 + 4).toNatClampNeg) 0) fun v11 s12 => (f133 s12).bind fun v13 => if v13 = v7 then (if v7 = 0 then (if (lg_cmp ((s12 564 0).toInt64) v11.toInt64) = 0 then (some (.inl (x4 + 7, (s12, ex + k9)))) else (some (.inr (0, (s12, ex + k9))))) else (some (.inl (x4 + 7, (s12, ex + k9))))) else (some (.inr (0, (s12, ex + k9))))) else (g_bd (f172 s8 (X.2 (x4 + 1).toNatClampNeg) (X.2 (x4 + 2).toNatClampNeg) (X.2 (x4 + 3).toNatClampNeg) (X.2 (x4 + 4).toNatClampNeg) 1) fun v11 s12 => (f133 s12).bind fun v13 => if v13 = v7 then (if v7 = 0 then (if (lg_cmp ((s12 564 0).toInt64) v11.toInt64) = 0 then (some (.inl (x4 + 7, (s12, ex + k9)))) else (some (.inr (0, (s12, ex + k9))))) else (some (.inl (x4 + 7, (s12, ex + k9))))) else (some (.inr (0, (s12, ex + k9)))))) else (g_wd (f226 s (X.2 (x4 + 1).toNatClampNeg) (X.2 (x4 + 2).toNatClampNeg) (X.2 (x4 + 3).toNatClampNeg) (X.2 (x4 + 4).toNatClampNeg) 1) fun v7 k9 s8 => if (X.2 (x4 + 5).toNatClampNeg) = 0 then (g_bd (f172 s8 (X.2 (x4 + 1).toNatClampNeg) (X.2 (x4 + 2).toNatClampNeg) (X.2 (x4 + 3).toNatClampNeg) (X.2 (x4 + 4).toNatClampNeg) 0) fun v11 s12 => (f133 s12).bind fun v13 => if v13 = v7 then (if v7 = 0 then (if (lg_cmp ((s12 564 0).toInt64) v11.toInt64) = 0 then (some (.inl (x4 + 7, (s12, ex + k9)))) else (some (.inr (0, (s12, ex + k9))))) else (some (.inl (x4 + 7, (s12, ex + k9))))) else (some (.inr (0, (s12, ex + k9))))) else (g_bd (f172 s8 (X.2 (x4 + 1).toNatClampNeg) (X.2 (x4 + 2).toNatClampNeg) (X.2 (x4 + 3).toNatClampNeg) (X.2 (x4 + 4).toNatClampNeg) 1) fun v11 s12 => (f133 s12).bind fun v13 => if v13 = v7 then (if v7 = 0 then (if (lg_cmp ((s12 564 0).toInt64) v11.toInt64) = 0 then (some (.inl (x4 + 7, (s12, ex + k9)))) else (some (.inr (0, (s12, ex + k9))))) else (some (.inl (x4 + 7, (s12, ex + k9))))) else (some (.inr (0, (s12, ex + k9)))))) else none else none else none else none else none)
set_option maxHeartbeats 10000000 in
set_option maxRecDepth 100000 in
theorem P251_302 {d ex : Nat} {rr : m_R} {s : g_S} {x4 : Int32} {u5 u6 : Option Value} {z : (Int32 × (g_S × Nat)) ⊕ (Int32 × (g_S × Nat))} (H : f251_302 X s ex x4 = some z) (hd : 86 ≤ d) (K0 : ∀ S : Int32 × (g_S × Nat), z = .inl S → ∀ u5 u6 : Option Value, n_R X (d + 1) 251 13 [some (.ref 1000000), some (.ref 0), some (.ref 199), some (.ref 564), some (.int S.1), u5, u6] [] (g_M S.2.1 S.2.2) rr) (Kr : ∀ q, z = .inr q → g_rL q = rr) : n_R X (d + 1) 251 302 [some (.ref 1000000), some (.ref 0), some (.ref 199), some (.ref 564), some (.int x4), u5, u6] [] (g_M s ex) rr := by
  unfold f251_302 at H
  refine g_go 5 md_251 (i1 := 307) rfl ?_
  obtain ⟨h1, H⟩ := g_gd H
  refine n_scr (n_q md_251 rfl) h1 ?_
  refine g_go 4 md_251 (i1 := 312) rfl ?_
  obtain ⟨h2, H⟩ := g_gd H
  refine n_scr (n_q md_251 rfl) h2 ?_
  refine g_go 4 md_251 (i1 := 317) rfl ?_
  obtain ⟨h3, H⟩ := g_gd H
  refine n_scr (n_q md_251 rfl) h3 ?_
  refine g_go 4 md_251 (i1 := 322) rfl ?_
  obtain ⟨h4, H⟩ := g_gd H
  refine n_scr (n_q md_251 rfl) h4 ?_
  refine g_go 4 md_251 (i1 := 327) rfl ?_
  obtain ⟨h5, H⟩ := g_gd H
  refine n_scr (n_q md_251 rfl) h5 ?_
  by_cases h6 : (X.2 (x4 + 5).toNatClampNeg) = 0
  · rw [if_pos h6] at H
    refine n_ifT (n_q md_251 rfl) (decide_eq_true h6) ?_
    refine g_go 2 md_251 (i1 := 333) rfl ?_
    obtain ⟨v7, k9, s8, hv7, H⟩ := g_wdp H
    refine n_callv (n_q md_251 rfl) (As := [.ref 0, .int (X.2 (x4 + 1).toNatClampNeg), .int (X.2 (x4 + 2).toNatClampNeg), .int (X.2 (x4 + 3).toNatClampNeg), .int (X.2 (x4 + 4).toNatClampNeg), .int 0, .ref 564]) (rest := []) rfl rfl (Nat.le_of_ble_eq_true rfl) rfl rfl (C226 (by omega) hv7) ?_
    refine g_go 6 md_251 (i1 := 340) (ls1 := [some (.ref 1000000), some (.ref 0), some (.ref 199), some (.ref 564), some (.int x4), some (.int v7), u6]) rfl ?_
    refine n_scr (n_q md_251 rfl) h1 ?_
    refine g_go 4 md_251 (i1 := 345) rfl ?_
    refine n_scr (n_q md_251 rfl) h2 ?_
    refine g_go 4 md_251 (i1 := 350) rfl ?_
    refine n_scr (n_q md_251 rfl) h3 ?_
    refine g_go 4 md_251 (i1 := 355) rfl ?_
    refine n_scr (n_q md_251 rfl) h4 ?_
    refine g_go 4 md_251 (i1 := 360) rfl ?_
    refine n_scr (n_q md_251 rfl) h5 ?_
    by_cases h10 : (X.2 (x4 + 5).toNatClampNeg) = 0
    · rw [if_pos h10] at H
      refine n_ifT (n_q md_251 rfl) (decide_eq_true h10) ?_
      refine g_go 1 md_251 (i1 := 365) rfl ?_
      obtain ⟨v11, s12, hv11, H⟩ := g_bdp H
      refine n_callv (n_q md_251 rfl) (As := [.ref 199, .int (X.2 (x4 + 1).toNatClampNeg), .int (X.2 (x4 + 2).toNatClampNeg), .int (X.2 (x4 + 3).toNatClampNeg), .int (X.2 (x4 + 4).toNatClampNeg), .int 0]) (rest := []) rfl rfl (Nat.le_of_ble_eq_true rfl) rfl (g_recv (b := 0) rfl t_199 rfl) (C172 (by omega) hv11) ?_
      refine g_go 2 md_251 (i1 := 368) (ls1 := [some (.ref 1000000), some (.ref 0), some (.ref 199), some (.ref 564), some (.int x4), some (.int v7), some (.int v11)]) rfl ?_
      obtain ⟨v13, hv13, H⟩ := g_bind H
      refine n_callv (n_q md_251 rfl) (As := [.ref 199]) (rest := []) rfl rfl (Nat.le_of_ble_eq_true rfl) rfl (g_recv (b := 0) rfl t_199 rfl) (C133 (by omega) hv13) ?_
      refine g_go 1 md_251 (i1 := 370) rfl ?_
      by_cases h14 : v13 = v7
      · rw [if_pos h14] at H
        refine n_cmpT (n_q md_251 rfl) (decide_eq_true h14) ?_
        refine g_go 1 md_251 (i1 := 374) rfl ?_
        by_cases h15 : v7 = 0
        · rw [if_pos h15] at H
          refine n_ifF (n_q md_251 rfl) (fun e1 => of_decide_eq_true e1 h15) ?_
          refine g_go 2 md_251 (i1 := 377) rfl ?_
          refine g_lald (n_q md_251 rfl) ?_
          refine g_go 2 md_251 (i1 := 380) rfl ?_
          refine n_go (n_q md_251 rfl) (fun _ => rfl) ?_
          by_cases h16 : (lg_cmp ((s12 564 0).toInt64) v11.toInt64) = 0
          · rw [if_pos h16] at H
            refine n_ifT (n_q md_251 rfl) (decide_eq_true h16) ?_
            refine g_go 3 md_251 (i1 := 13) (ls1 := [some (.ref 1000000), some (.ref 0), some (.ref 199), some (.ref 564), some (.int (x4 + 7)), some (.int v7), some (.int v11)]) rfl ?_
            cases H
            exact K0 (x4 + 7, (s12, ex + k9)) rfl _ _
          · rw [if_neg h16] at H
            refine n_ifF (n_q md_251 rfl) (fun e1 => h16 (of_decide_eq_true e1)) ?_
            refine g_go 1 md_251 (i1 := 383) rfl ?_
            cases H
            rw [← Kr _ rfl]
            exact n_iret (n_q md_251 rfl) (Or.inr rfl)
        · rw [if_neg h15] at H
          refine n_ifT (n_q md_251 rfl) (decide_eq_true h15) ?_
          refine g_go 3 md_251 (i1 := 13) (ls1 := [some (.ref 1000000), some (.ref 0), some (.ref 199), some (.ref 564), some (.int (x4 + 7)), some (.int v7), some (.int v11)]) rfl ?_
          cases H
          exact K0 (x4 + 7, (s12, ex + k9)) rfl _ _
      · rw [if_neg h14] at H
        refine n_cmpF (n_q md_251 rfl) (fun e1 => h14 (of_decide_eq_true e1)) ?_
        refine g_go 1 md_251 (i1 := 372) rfl ?_
        cases H
        rw [← Kr _ rfl]
        exact n_iret (n_q md_251 rfl) (Or.inr rfl)
    · rw [if_neg h10] at H
      refine n_ifF (n_q md_251 rfl) (fun e1 => h10 (of_decide_eq_true e1)) ?_
      refine g_go 2 md_251 (i1 := 365) rfl ?_
      obtain ⟨v11, s12, hv11, H⟩ := g_bdp H
      refine n_callv (n_q md_251 rfl) (As := [.ref 199, .int (X.2 (x4 + 1).toNatClampNeg), .int (X.2 (x4 + 2).toNatClampNeg), .int (X.2 (x4 + 3).toNatClampNeg), .int (X.2 (x4 + 4).toNatClampNeg), .int 1]) (rest := []) rfl rfl (Nat.le_of_ble_eq_true rfl) rfl (g_recv (b := 0) rfl t_199 rfl) (C172 (by omega) hv11) ?_
      refine g_go 2 md_251 (i1 := 368) (ls1 := [some (.ref 1000000), some (.ref 0), some (.ref 199), some (.ref 564), some (.int x4), some (.int v7), some (.int v11)]) rfl ?_
      obtain ⟨v13, hv13, H⟩ := g_bind H
      refine n_callv (n_q md_251 rfl) (As := [.ref 199]) (rest := []) rfl rfl (Nat.le_of_ble_eq_true rfl) rfl (g_recv (b := 0) rfl t_199 rfl) (C133 (by omega) hv13) ?_
      refine g_go 1 md_251 (i1 := 370) rfl ?_
      by_cases h14 : v13 = v7
      · rw [if_pos h14] at H
        refine n_cmpT (n_q md_251 rfl) (decide_eq_true h14) ?_
        refine g_go 1 md_251 (i1 := 374) rfl ?_
        by_cases h15 : v7 = 0
        · rw [if_pos h15] at H
          refine n_ifF (n_q md_251 rfl) (fun e1 => of_decide_eq_true e1 h15) ?_
          refine g_go 2 md_251 (i1 := 377) rfl ?_
          refine g_lald (n_q md_251 rfl) ?_
          refine g_go 2 md_251 (i1 := 380) rfl ?_
          refine n_go (n_q md_251 rfl) (fun _ => rfl) ?_
          by_cases h16 : (lg_cmp ((s12 564 0).toInt64) v11.toInt64) = 0
          · rw [if_pos h16] at H
            refine n_ifT (n_q md_251 rfl) (decide_eq_true h16) ?_
            refine g_go 3 md_251 (i1 := 13) (ls1 := [some (.ref 1000000), some (.ref 0), some (.ref 199), some (.ref 564), some (.int (x4 + 7)), some (.int v7), some (.int v11)]) rfl ?_
            cases H
            exact K0 (x4 + 7, (s12, ex + k9)) rfl _ _
          · rw [if_neg h16] at H
            refine n_ifF (n_q md_251 rfl) (fun e1 => h16 (of_decide_eq_true e1)) ?_
            refine g_go 1 md_251 (i1 := 383) rfl ?_
            cases H
            rw [← Kr _ rfl]
            exact n_iret (n_q md_251 rfl) (Or.inr rfl)
        · rw [if_neg h15] at H
          refine n_ifT (n_q md_251 rfl) (decide_eq_true h15) ?_
          refine g_go 3 md_251 (i1 := 13) (ls1 := [some (.ref 1000000), some (.ref 0), some (.ref 199), some (.ref 564), some (.int (x4 + 7)), some (.int v7), some (.int v11)]) rfl ?_
          cases H
          exact K0 (x4 + 7, (s12, ex + k9)) rfl _ _
      · rw [if_neg h14] at H
        refine n_cmpF (n_q md_251 rfl) (fun e1 => h14 (of_decide_eq_true e1)) ?_
        refine g_go 1 md_251 (i1 := 372) rfl ?_
        cases H
        rw [← Kr _ rfl]
        exact n_iret (n_q md_251 rfl) (Or.inr rfl)
  · rw [if_neg h6] at H
    refine n_ifF (n_q md_251 rfl) (fun e1 => h6 (of_decide_eq_true e1)) ?_
    refine g_go 3 md_251 (i1 := 333) rfl ?_
    obtain ⟨v7, k9, s8, hv7, H⟩ := g_wdp H
    refine n_callv (n_q md_251 rfl) (As := [.ref 0, .int (X.2 (x4 + 1).toNatClampNeg), .int (X.2 (x4 + 2).toNatClampNeg), .int (X.2 (x4 + 3).toNatClampNeg), .int (X.2 (x4 + 4).toNatClampNeg), .int 1, .ref 564]) (rest := []) rfl rfl (Nat.le_of_ble_eq_true rfl) rfl rfl (C226 (by omega) hv7) ?_
    refine g_go 6 md_251 (i1 := 340) (ls1 := [some (.ref 1000000), some (.ref 0), some (.ref 199), some (.ref 564), some (.int x4), some (.int v7), u6]) rfl ?_
    refine n_scr (n_q md_251 rfl) h1 ?_
    refine g_go 4 md_251 (i1 := 345) rfl ?_
    refine n_scr (n_q md_251 rfl) h2 ?_
    refine g_go 4 md_251 (i1 := 350) rfl ?_
    refine n_scr (n_q md_251 rfl) h3 ?_
    refine g_go 4 md_251 (i1 := 355) rfl ?_
    refine n_scr (n_q md_251 rfl) h4 ?_
    refine g_go 4 md_251 (i1 := 360) rfl ?_
    refine n_scr (n_q md_251 rfl) h5 ?_
    by_cases h10 : (X.2 (x4 + 5).toNatClampNeg) = 0
    · rw [if_pos h10] at H
      refine n_ifT (n_q md_251 rfl) (decide_eq_true h10) ?_
      refine g_go 1 md_251 (i1 := 365) rfl ?_
      obtain ⟨v11, s12, hv11, H⟩ := g_bdp H
      refine n_callv (n_q md_251 rfl) (As := [.ref 199, .int (X.2 (x4 + 1).toNatClampNeg), .int (X.2 (x4 + 2).toNatClampNeg), .int (X.2 (x4 + 3).toNatClampNeg), .int (X.2 (x4 + 4).toNatClampNeg), .int 0]) (rest := []) rfl rfl (Nat.le_of_ble_eq_true rfl) rfl (g_recv (b := 0) rfl t_199 rfl) (C172 (by omega) hv11) ?_
      refine g_go 2 md_251 (i1 := 368) (ls1 := [some (.ref 1000000), some (.ref 0), some (.ref 199), some (.ref 564), some (.int x4), some (.int v7), some (.int v11)]) rfl ?_
      obtain ⟨v13, hv13, H⟩ := g_bind H
      refine n_callv (n_q md_251 rfl) (As := [.ref 199]) (rest := []) rfl rfl (Nat.le_of_ble_eq_true rfl) rfl (g_recv (b := 0) rfl t_199 rfl) (C133 (by omega) hv13) ?_
      refine g_go 1 md_251 (i1 := 370) rfl ?_
      by_cases h14 : v13 = v7
      · rw [if_pos h14] at H
        refine n_cmpT (n_q md_251 rfl) (decide_eq_true h14) ?_
        refine g_go 1 md_251 (i1 := 374) rfl ?_
        by_cases h15 : v7 = 0
        · rw [if_pos h15] at H
          refine n_ifF (n_q md_251 rfl) (fun e1 => of_decide_eq_true e1 h15) ?_
          refine g_go 2 md_251 (i1 := 377) rfl ?_
          refine g_lald (n_q md_251 rfl) ?_
          refine g_go 2 md_251 (i1 := 380) rfl ?_
          refine n_go (n_q md_251 rfl) (fun _ => rfl) ?_
          by_cases h16 : (lg_cmp ((s12 564 0).toInt64) v11.toInt64) = 0
          · rw [if_pos h16] at H
            refine n_ifT (n_q md_251 rfl) (decide_eq_true h16) ?_
            refine g_go 3 md_251 (i1 := 13) (ls1 := [some (.ref 1000000), some (.ref 0), some (.ref 199), some (.ref 564), some (.int (x4 + 7)), some (.int v7), some (.int v11)]) rfl ?_
            cases H
            exact K0 (x4 + 7, (s12, ex + k9)) rfl _ _
          · rw [if_neg h16] at H
            refine n_ifF (n_q md_251 rfl) (fun e1 => h16 (of_decide_eq_true e1)) ?_
            refine g_go 1 md_251 (i1 := 383) rfl ?_
            cases H
            rw [← Kr _ rfl]
            exact n_iret (n_q md_251 rfl) (Or.inr rfl)
        · rw [if_neg h15] at H
          refine n_ifT (n_q md_251 rfl) (decide_eq_true h15) ?_
          refine g_go 3 md_251 (i1 := 13) (ls1 := [some (.ref 1000000), some (.ref 0), some (.ref 199), some (.ref 564), some (.int (x4 + 7)), some (.int v7), some (.int v11)]) rfl ?_
          cases H
          exact K0 (x4 + 7, (s12, ex + k9)) rfl _ _
      · rw [if_neg h14] at H
        refine n_cmpF (n_q md_251 rfl) (fun e1 => h14 (of_decide_eq_true e1)) ?_
        refine g_go 1 md_251 (i1 := 372) rfl ?_
        cases H
        rw [← Kr _ rfl]
        exact n_iret (n_q md_251 rfl) (Or.inr rfl)
    · rw [if_neg h10] at H
      refine n_ifF (n_q md_251 rfl) (fun e1 => h10 (of_decide_eq_true e1)) ?_
      refine g_go 2 md_251 (i1 := 365) rfl ?_
      obtain ⟨v11, s12, hv11, H⟩ := g_bdp H
      refine n_callv (n_q md_251 rfl) (As := [.ref 199, .int (X.2 (x4 + 1).toNatClampNeg), .int (X.2 (x4 + 2).toNatClampNeg), .int (X.2 (x4 + 3).toNatClampNeg), .int (X.2 (x4 + 4).toNatClampNeg), .int 1]) (rest := []) rfl rfl (Nat.le_of_ble_eq_true rfl) rfl (g_recv (b := 0) rfl t_199 rfl) (C172 (by omega) hv11) ?_
      refine g_go 2 md_251 (i1 := 368) (ls1 := [some (.ref 1000000), some (.ref 0), some (.ref 199), some (.ref 564), some (.int x4), some (.int v7), some (.int v11)]) rfl ?_
      obtain ⟨v13, hv13, H⟩ := g_bind H
      refine n_callv (n_q md_251 rfl) (As := [.ref 199]) (rest := []) rfl rfl (Nat.le_of_ble_eq_true rfl) rfl (g_recv (b := 0) rfl t_199 rfl) (C133 (by omega) hv13) ?_
      refine g_go 1 md_251 (i1 := 370) rfl ?_
      by_cases h14 : v13 = v7
      · rw [if_pos h14] at H
        refine n_cmpT (n_q md_251 rfl) (decide_eq_true h14) ?_
        refine g_go 1 md_251 (i1 := 374) rfl ?_
        by_cases h15 : v7 = 0
        · rw [if_pos h15] at H
          refine n_ifF (n_q md_251 rfl) (fun e1 => of_decide_eq_true e1 h15) ?_
          refine g_go 2 md_251 (i1 := 377) rfl ?_
          refine g_lald (n_q md_251 rfl) ?_
          refine g_go 2 md_251 (i1 := 380) rfl ?_
          refine n_go (n_q md_251 rfl) (fun _ => rfl) ?_
          by_cases h16 : (lg_cmp ((s12 564 0).toInt64) v11.toInt64) = 0
          · rw [if_pos h16] at H
            refine n_ifT (n_q md_251 rfl) (decide_eq_true h16) ?_
            refine g_go 3 md_251 (i1 := 13) (ls1 := [some (.ref 1000000), some (.ref 0), some (.ref 199), some (.ref 564), some (.int (x4 + 7)), some (.int v7), some (.int v11)]) rfl ?_
            cases H
            exact K0 (x4 + 7, (s12, ex + k9)) rfl _ _
          · rw [if_neg h16] at H
            refine n_ifF (n_q md_251 rfl) (fun e1 => h16 (of_decide_eq_true e1)) ?_
            refine g_go 1 md_251 (i1 := 383) rfl ?_
            cases H
            rw [← Kr _ rfl]
            exact n_iret (n_q md_251 rfl) (Or.inr rfl)
        · rw [if_neg h15] at H
          refine n_ifT (n_q md_251 rfl) (decide_eq_true h15) ?_
          refine g_go 3 md_251 (i1 := 13) (ls1 := [some (.ref 1000000), some (.ref 0), some (.ref 199), some (.ref 564), some (.int (x4 + 7)), some (.int v7), some (.int v11)]) rfl ?_
          cases H
          exact K0 (x4 + 7, (s12, ex + k9)) rfl _ _
      · rw [if_neg h14] at H
        refine n_cmpF (n_q md_251 rfl) (fun e1 => h14 (of_decide_eq_true e1)) ?_
        refine g_go 1 md_251 (i1 := 372) rfl ?_
        cases H
        rw [← Kr _ rfl]
        exact n_iret (n_q md_251 rfl) (Or.inr rfl)
noncomputable def f251_385 (X : m_X) (s : g_S) (ex : Nat) (x4 : Int32) : Option ((Int32 × (g_S × Nat)) ⊕ (Int32 × (g_S × Nat))) := (if m_in (x4 + 1) X.1 = true then if m_in (x4 + 2) X.1 = true then g_wd (f227 s (X.2 (x4 + 1).toNatClampNeg) (X.2 (x4 + 2).toNatClampNeg)) fun v3 k5 s4 => g_bd (f174 s4 (X.2 (x4 + 1).toNatClampNeg) (X.2 (x4 + 2).toNatClampNeg)) fun v6 s7 => (f133 s7).bind fun v8 => if v8 = v3 then (if v3 = 0 then (if (lg_cmp ((s7 564 0).toInt64) v6.toInt64) = 0 then (some (.inl (x4 + 7, (s7, ex + k5)))) else (some (.inr (0, (s7, ex + k5))))) else (some (.inl (x4 + 7, (s7, ex + k5))))) else (some (.inr (0, (s7, ex + k5)))) else none else none)
set_option maxHeartbeats 10000000 in
set_option maxRecDepth 100000 in
theorem P251_385 {d ex : Nat} {rr : m_R} {s : g_S} {x4 : Int32} {u5 u6 : Option Value} {z : (Int32 × (g_S × Nat)) ⊕ (Int32 × (g_S × Nat))} (H : f251_385 X s ex x4 = some z) (hd : 86 ≤ d) (K0 : ∀ S : Int32 × (g_S × Nat), z = .inl S → ∀ u5 u6 : Option Value, n_R X (d + 1) 251 13 [some (.ref 1000000), some (.ref 0), some (.ref 199), some (.ref 564), some (.int S.1), u5, u6] [] (g_M S.2.1 S.2.2) rr) (Kr : ∀ q, z = .inr q → g_rL q = rr) : n_R X (d + 1) 251 385 [some (.ref 1000000), some (.ref 0), some (.ref 199), some (.ref 564), some (.int x4), u5, u6] [] (g_M s ex) rr := by
  unfold f251_385 at H
  refine g_go 5 md_251 (i1 := 390) rfl ?_
  obtain ⟨h1, H⟩ := g_gd H
  refine n_scr (n_q md_251 rfl) h1 ?_
  refine g_go 4 md_251 (i1 := 395) rfl ?_
  obtain ⟨h2, H⟩ := g_gd H
  refine n_scr (n_q md_251 rfl) h2 ?_
  refine g_go 1 md_251 (i1 := 397) rfl ?_
  obtain ⟨v3, k5, s4, hv3, H⟩ := g_wdp H
  refine n_callv (n_q md_251 rfl) (As := [.ref 0, .int (X.2 (x4 + 1).toNatClampNeg), .int (X.2 (x4 + 2).toNatClampNeg), .ref 564]) (rest := []) rfl rfl (Nat.le_of_ble_eq_true rfl) rfl rfl (C227 (by omega) hv3) ?_
  refine g_go 6 md_251 (i1 := 404) (ls1 := [some (.ref 1000000), some (.ref 0), some (.ref 199), some (.ref 564), some (.int x4), some (.int v3), u6]) rfl ?_
  refine n_scr (n_q md_251 rfl) h1 ?_
  refine g_go 4 md_251 (i1 := 409) rfl ?_
  refine n_scr (n_q md_251 rfl) h2 ?_
  obtain ⟨v6, s7, hv6, H⟩ := g_bdp H
  refine n_callv (n_q md_251 rfl) (As := [.ref 199, .int (X.2 (x4 + 1).toNatClampNeg), .int (X.2 (x4 + 2).toNatClampNeg)]) (rest := []) rfl rfl (Nat.le_of_ble_eq_true rfl) rfl (g_recv (b := 0) rfl t_199 rfl) (C174 (by omega) hv6) ?_
  refine g_go 2 md_251 (i1 := 413) (ls1 := [some (.ref 1000000), some (.ref 0), some (.ref 199), some (.ref 564), some (.int x4), some (.int v3), some (.int v6)]) rfl ?_
  obtain ⟨v8, hv8, H⟩ := g_bind H
  refine n_callv (n_q md_251 rfl) (As := [.ref 199]) (rest := []) rfl rfl (Nat.le_of_ble_eq_true rfl) rfl (g_recv (b := 0) rfl t_199 rfl) (C133 (by omega) hv8) ?_
  refine g_go 1 md_251 (i1 := 415) rfl ?_
  by_cases h9 : v8 = v3
  · rw [if_pos h9] at H
    refine n_cmpT (n_q md_251 rfl) (decide_eq_true h9) ?_
    refine g_go 1 md_251 (i1 := 419) rfl ?_
    by_cases h10 : v3 = 0
    · rw [if_pos h10] at H
      refine n_ifF (n_q md_251 rfl) (fun e1 => of_decide_eq_true e1 h10) ?_
      refine g_go 2 md_251 (i1 := 422) rfl ?_
      refine g_lald (n_q md_251 rfl) ?_
      refine g_go 2 md_251 (i1 := 425) rfl ?_
      refine n_go (n_q md_251 rfl) (fun _ => rfl) ?_
      by_cases h11 : (lg_cmp ((s7 564 0).toInt64) v6.toInt64) = 0
      · rw [if_pos h11] at H
        refine n_ifT (n_q md_251 rfl) (decide_eq_true h11) ?_
        refine g_go 3 md_251 (i1 := 13) (ls1 := [some (.ref 1000000), some (.ref 0), some (.ref 199), some (.ref 564), some (.int (x4 + 7)), some (.int v3), some (.int v6)]) rfl ?_
        cases H
        exact K0 (x4 + 7, (s7, ex + k5)) rfl _ _
      · rw [if_neg h11] at H
        refine n_ifF (n_q md_251 rfl) (fun e1 => h11 (of_decide_eq_true e1)) ?_
        refine g_go 1 md_251 (i1 := 428) rfl ?_
        cases H
        rw [← Kr _ rfl]
        exact n_iret (n_q md_251 rfl) (Or.inr rfl)
    · rw [if_neg h10] at H
      refine n_ifT (n_q md_251 rfl) (decide_eq_true h10) ?_
      refine g_go 3 md_251 (i1 := 13) (ls1 := [some (.ref 1000000), some (.ref 0), some (.ref 199), some (.ref 564), some (.int (x4 + 7)), some (.int v3), some (.int v6)]) rfl ?_
      cases H
      exact K0 (x4 + 7, (s7, ex + k5)) rfl _ _
  · rw [if_neg h9] at H
    refine n_cmpF (n_q md_251 rfl) (fun e1 => h9 (of_decide_eq_true e1)) ?_
    refine g_go 1 md_251 (i1 := 417) rfl ?_
    cases H
    rw [← Kr _ rfl]
    exact n_iret (n_q md_251 rfl) (Or.inr rfl)
noncomputable def f251_430 (X : m_X) (s : g_S) (ex : Nat) (x4 : Int32) : Option ((Int32 × (g_S × Nat)) ⊕ (Int32 × (g_S × Nat))) := (if m_in (x4 + 1) X.1 = true then g_wd (f228 s (X.2 (x4 + 1).toNatClampNeg)) fun v2 k4 s3 => g_bd (f175 s3 (X.2 (x4 + 1).toNatClampNeg)) fun v5 s6 => (f133 s6).bind fun v7 => if v7 = v2 then (if v2 = 0 then (if (lg_cmp ((s6 564 0).toInt64) v5.toInt64) = 0 then (some (.inl (x4 + 7, (s6, ex + k4)))) else (some (.inr (0, (s6, ex + k4))))) else (some (.inl (x4 + 7, (s6, ex + k4))))) else (some (.inr (0, (s6, ex + k4)))) else none)
set_option maxHeartbeats 10000000 in
set_option maxRecDepth 100000 in
theorem P251_430 {d ex : Nat} {rr : m_R} {s : g_S} {x4 : Int32} {u5 u6 : Option Value} {z : (Int32 × (g_S × Nat)) ⊕ (Int32 × (g_S × Nat))} (H : f251_430 X s ex x4 = some z) (hd : 86 ≤ d) (K0 : ∀ S : Int32 × (g_S × Nat), z = .inl S → ∀ u5 u6 : Option Value, n_R X (d + 1) 251 13 [some (.ref 1000000), some (.ref 0), some (.ref 199), some (.ref 564), some (.int S.1), u5, u6] [] (g_M S.2.1 S.2.2) rr) (Kr : ∀ q, z = .inr q → g_rL q = rr) : n_R X (d + 1) 251 430 [some (.ref 1000000), some (.ref 0), some (.ref 199), some (.ref 564), some (.int x4), u5, u6] [] (g_M s ex) rr := by
  unfold f251_430 at H
  refine g_go 5 md_251 (i1 := 435) rfl ?_
  obtain ⟨h1, H⟩ := g_gd H
  refine n_scr (n_q md_251 rfl) h1 ?_
  refine g_go 1 md_251 (i1 := 437) rfl ?_
  obtain ⟨v2, k4, s3, hv2, H⟩ := g_wdp H
  refine n_callv (n_q md_251 rfl) (As := [.ref 0, .int (X.2 (x4 + 1).toNatClampNeg), .ref 564]) (rest := []) rfl rfl (Nat.le_of_ble_eq_true rfl) rfl rfl (C228 (by omega) hv2) ?_
  refine g_go 6 md_251 (i1 := 444) (ls1 := [some (.ref 1000000), some (.ref 0), some (.ref 199), some (.ref 564), some (.int x4), some (.int v2), u6]) rfl ?_
  refine n_scr (n_q md_251 rfl) h1 ?_
  obtain ⟨v5, s6, hv5, H⟩ := g_bdp H
  refine n_callv (n_q md_251 rfl) (As := [.ref 199, .int (X.2 (x4 + 1).toNatClampNeg)]) (rest := []) rfl rfl (Nat.le_of_ble_eq_true rfl) rfl (g_recv (b := 0) rfl t_199 rfl) (C175 (by omega) hv5) ?_
  refine g_go 2 md_251 (i1 := 448) (ls1 := [some (.ref 1000000), some (.ref 0), some (.ref 199), some (.ref 564), some (.int x4), some (.int v2), some (.int v5)]) rfl ?_
  obtain ⟨v7, hv7, H⟩ := g_bind H
  refine n_callv (n_q md_251 rfl) (As := [.ref 199]) (rest := []) rfl rfl (Nat.le_of_ble_eq_true rfl) rfl (g_recv (b := 0) rfl t_199 rfl) (C133 (by omega) hv7) ?_
  refine g_go 1 md_251 (i1 := 450) rfl ?_
  by_cases h8 : v7 = v2
  · rw [if_pos h8] at H
    refine n_cmpT (n_q md_251 rfl) (decide_eq_true h8) ?_
    refine g_go 1 md_251 (i1 := 454) rfl ?_
    by_cases h9 : v2 = 0
    · rw [if_pos h9] at H
      refine n_ifF (n_q md_251 rfl) (fun e1 => of_decide_eq_true e1 h9) ?_
      refine g_go 2 md_251 (i1 := 457) rfl ?_
      refine g_lald (n_q md_251 rfl) ?_
      refine g_go 2 md_251 (i1 := 460) rfl ?_
      refine n_go (n_q md_251 rfl) (fun _ => rfl) ?_
      by_cases h10 : (lg_cmp ((s6 564 0).toInt64) v5.toInt64) = 0
      · rw [if_pos h10] at H
        refine n_ifT (n_q md_251 rfl) (decide_eq_true h10) ?_
        refine g_go 3 md_251 (i1 := 13) (ls1 := [some (.ref 1000000), some (.ref 0), some (.ref 199), some (.ref 564), some (.int (x4 + 7)), some (.int v2), some (.int v5)]) rfl ?_
        cases H
        exact K0 (x4 + 7, (s6, ex + k4)) rfl _ _
      · rw [if_neg h10] at H
        refine n_ifF (n_q md_251 rfl) (fun e1 => h10 (of_decide_eq_true e1)) ?_
        refine g_go 1 md_251 (i1 := 463) rfl ?_
        cases H
        rw [← Kr _ rfl]
        exact n_iret (n_q md_251 rfl) (Or.inr rfl)
    · rw [if_neg h9] at H
      refine n_ifT (n_q md_251 rfl) (decide_eq_true h9) ?_
      refine g_go 3 md_251 (i1 := 13) (ls1 := [some (.ref 1000000), some (.ref 0), some (.ref 199), some (.ref 564), some (.int (x4 + 7)), some (.int v2), some (.int v5)]) rfl ?_
      cases H
      exact K0 (x4 + 7, (s6, ex + k4)) rfl _ _
  · rw [if_neg h8] at H
    refine n_cmpF (n_q md_251 rfl) (fun e1 => h8 (of_decide_eq_true e1)) ?_
    refine g_go 1 md_251 (i1 := 452) rfl ?_
    cases H
    rw [← Kr _ rfl]
    exact n_iret (n_q md_251 rfl) (Or.inr rfl)
noncomputable def f251_465 (X : m_X) (s : g_S) (ex : Nat) (x4 : Int32) : Option ((Int32 × (g_S × Nat)) ⊕ (Int32 × (g_S × Nat))) := (if m_in (x4 + 1) X.1 = true then if m_in (x4 + 2) X.1 = true then g_wd (f229 s (X.2 (x4 + 1).toNatClampNeg) (X.2 (x4 + 2).toNatClampNeg)) fun v3 k5 s4 => g_bd (f176 s4 (X.2 (x4 + 1).toNatClampNeg) (X.2 (x4 + 2).toNatClampNeg)) fun v6 s7 => (f133 s7).bind fun v8 => if v8 = v3 then (if v3 = 0 then (if (lg_cmp ((s7 564 0).toInt64) v6.toInt64) = 0 then (some (.inl (x4 + 7, (s7, ex + k5)))) else (some (.inr (0, (s7, ex + k5))))) else (some (.inl (x4 + 7, (s7, ex + k5))))) else (some (.inr (0, (s7, ex + k5)))) else none else none)
set_option maxHeartbeats 10000000 in
set_option maxRecDepth 100000 in
theorem P251_465 {d ex : Nat} {rr : m_R} {s : g_S} {x4 : Int32} {u5 u6 : Option Value} {z : (Int32 × (g_S × Nat)) ⊕ (Int32 × (g_S × Nat))} (H : f251_465 X s ex x4 = some z) (hd : 86 ≤ d) (K0 : ∀ S : Int32 × (g_S × Nat), z = .inl S → ∀ u5 u6 : Option Value, n_R X (d + 1) 251 13 [some (.ref 1000000), some (.ref 0), some (.ref 199), some (.ref 564), some (.int S.1), u5, u6] [] (g_M S.2.1 S.2.2) rr) (Kr : ∀ q, z = .inr q → g_rL q = rr) : n_R X (d + 1) 251 465 [some (.ref 1000000), some (.ref 0), some (.ref 199), some (.ref 564), some (.int x4), u5, u6] [] (g_M s ex) rr := by
  unfold f251_465 at H
  refine g_go 5 md_251 (i1 := 470) rfl ?_
  obtain ⟨h1, H⟩ := g_gd H
  refine n_scr (n_q md_251 rfl) h1 ?_
  refine g_go 4 md_251 (i1 := 475) rfl ?_
  obtain ⟨h2, H⟩ := g_gd H
  refine n_scr (n_q md_251 rfl) h2 ?_
  refine g_go 1 md_251 (i1 := 477) rfl ?_
  obtain ⟨v3, k5, s4, hv3, H⟩ := g_wdp H
  refine n_callv (n_q md_251 rfl) (As := [.ref 0, .int (X.2 (x4 + 1).toNatClampNeg), .int (X.2 (x4 + 2).toNatClampNeg), .ref 564]) (rest := []) rfl rfl (Nat.le_of_ble_eq_true rfl) rfl rfl (C229 (by omega) hv3) ?_
  refine g_go 6 md_251 (i1 := 484) (ls1 := [some (.ref 1000000), some (.ref 0), some (.ref 199), some (.ref 564), some (.int x4), some (.int v3), u6]) rfl ?_
  refine n_scr (n_q md_251 rfl) h1 ?_
  refine g_go 4 md_251 (i1 := 489) rfl ?_
  refine n_scr (n_q md_251 rfl) h2 ?_
  obtain ⟨v6, s7, hv6, H⟩ := g_bdp H
  refine n_callv (n_q md_251 rfl) (As := [.ref 199, .int (X.2 (x4 + 1).toNatClampNeg), .int (X.2 (x4 + 2).toNatClampNeg)]) (rest := []) rfl rfl (Nat.le_of_ble_eq_true rfl) rfl (g_recv (b := 0) rfl t_199 rfl) (C176 (by omega) hv6) ?_
  refine g_go 2 md_251 (i1 := 493) (ls1 := [some (.ref 1000000), some (.ref 0), some (.ref 199), some (.ref 564), some (.int x4), some (.int v3), some (.int v6)]) rfl ?_
  obtain ⟨v8, hv8, H⟩ := g_bind H
  refine n_callv (n_q md_251 rfl) (As := [.ref 199]) (rest := []) rfl rfl (Nat.le_of_ble_eq_true rfl) rfl (g_recv (b := 0) rfl t_199 rfl) (C133 (by omega) hv8) ?_
  refine g_go 1 md_251 (i1 := 495) rfl ?_
  by_cases h9 : v8 = v3
  · rw [if_pos h9] at H
    refine n_cmpT (n_q md_251 rfl) (decide_eq_true h9) ?_
    refine g_go 1 md_251 (i1 := 499) rfl ?_
    by_cases h10 : v3 = 0
    · rw [if_pos h10] at H
      refine n_ifF (n_q md_251 rfl) (fun e1 => of_decide_eq_true e1 h10) ?_
      refine g_go 2 md_251 (i1 := 502) rfl ?_
      refine g_lald (n_q md_251 rfl) ?_
      refine g_go 2 md_251 (i1 := 505) rfl ?_
      refine n_go (n_q md_251 rfl) (fun _ => rfl) ?_
      by_cases h11 : (lg_cmp ((s7 564 0).toInt64) v6.toInt64) = 0
      · rw [if_pos h11] at H
        refine n_ifT (n_q md_251 rfl) (decide_eq_true h11) ?_
        refine g_go 3 md_251 (i1 := 13) (ls1 := [some (.ref 1000000), some (.ref 0), some (.ref 199), some (.ref 564), some (.int (x4 + 7)), some (.int v3), some (.int v6)]) rfl ?_
        cases H
        exact K0 (x4 + 7, (s7, ex + k5)) rfl _ _
      · rw [if_neg h11] at H
        refine n_ifF (n_q md_251 rfl) (fun e1 => h11 (of_decide_eq_true e1)) ?_
        refine g_go 1 md_251 (i1 := 508) rfl ?_
        cases H
        rw [← Kr _ rfl]
        exact n_iret (n_q md_251 rfl) (Or.inr rfl)
    · rw [if_neg h10] at H
      refine n_ifT (n_q md_251 rfl) (decide_eq_true h10) ?_
      refine g_go 3 md_251 (i1 := 13) (ls1 := [some (.ref 1000000), some (.ref 0), some (.ref 199), some (.ref 564), some (.int (x4 + 7)), some (.int v3), some (.int v6)]) rfl ?_
      cases H
      exact K0 (x4 + 7, (s7, ex + k5)) rfl _ _
  · rw [if_neg h9] at H
    refine n_cmpF (n_q md_251 rfl) (fun e1 => h9 (of_decide_eq_true e1)) ?_
    refine g_go 1 md_251 (i1 := 497) rfl ?_
    cases H
    rw [← Kr _ rfl]
    exact n_iret (n_q md_251 rfl) (Or.inr rfl)
noncomputable def f251_510 (X : m_X) (s : g_S) (ex : Nat) (x4 : Int32) : Option ((Int32 × (g_S × Nat)) ⊕ (Int32 × (g_S × Nat))) := (if m_in (x4 + 1) X.1 = true then if m_in (x4 + 2) X.1 = true then if m_in (x4 + 3) X.1 = true then if (X.2 (x4 + 3).toNatClampNeg) = 0 then (g_wd (f230 s (X.2 (x4 + 1).toNatClampNeg) (X.2 (x4 + 2).toNatClampNeg) 0) fun v5 k7 s6 => if (X.2 (x4 + 3).toNatClampNeg) = 0 then (g_bd (f177 s6 (X.2 (x4 + 1).toNatClampNeg) (X.2 (x4 + 2).toNatClampNeg) 0) fun v9 s10 => (f133 s10).bind fun v11 => if v11 = v5 then (if v5 = 0 then (if v9 = 0 then (if (lg_cmp ((s10 564 0).toInt64) (Int64.ofNat 0)) = 0 then (some (.inl (x4 + 7, (s10, ex + k7)))) else (some (.inr (0, (s10, ex + k7))))) else (if (lg_cmp ((s10 564 0).toInt64) (Int64.ofNat 1)) = 0 then (some (.inl (x4 + 7, (s10, ex + k7)))) else (some (.inr (0, (s10, ex + k7)))))) else (some (.inl (x4 + 7, (s10, ex + k7))))) else (some (.inr (0, (s10, ex + k7))))) else (g_bd (f177 s6 (X.2 (x4 + 1).toNatClampNeg) (X.2 (x4 + 2).toNatClampNeg) 1) fun v9 s10 => (f133 s10).bind fun v11 => if v11 = v5 then (if v5 = 0 then (if v9 = 0 then (if (lg_cmp ((s10 564 0).toInt64) (Int64.ofNat 0)) = 0 then (some (.inl (x4 + 7, (s10, ex + k7)))) else (some (.inr (0, (s10, ex + k7))))) else (if (lg_cmp ((s10 564 0).toInt64) (Int64.ofNat 1)) = 0 then (some (.inl (x4 + 7, (s10, ex + k7)))) else (some (.inr (0, (s10, ex + k7)))))) else (some (.inl (x4 + 7, (s10, ex + k7))))) else (some (.inr (0, (s10, ex + k7)))))) else (g_wd (f230 s (X.2 (x4 + 1).toNatClampNeg) (X.2 (x4 + 2).toNatClampNeg) 1) fun v5 k7 s6 => if (X.2 (x4 + 3).toNatClampNeg) = 0 then (g_bd (f177 s6 (X.2 (x4 + 1).toNatClampNeg) (X.2 (x4 + 2).toNatClampNeg) 0) fun v9 s10 => (f133 s10).bind fun v11 => if v11 = v5 then (if v5 = 0 then (if v9 = 0 then (if (lg_cmp ((s10 564 0).toInt64) (Int64.ofNat 0)) = 0 then (some (.inl (x4 + 7, (s10, ex + k7)))) else (some (.inr (0, (s10, ex + k7))))) else (if (lg_cmp ((s10 564 0).toInt64) (Int64.ofNat 1)) = 0 then (some (.inl (x4 + 7, (s10, ex + k7)))) else (some (.inr (0, (s10, ex + k7)))))) else (some (.inl (x4 + 7, (s10, ex + k7))))) else (some (.inr (0, (s10, ex + k7))))) else (g_bd (f177 s6 (X.2 (x4 + 1).toNatClampNeg) (X.2 (x4 + 2).toNatClampNeg) 1) fun v9 s10 => (f133 s10).bind fun v11 => if v11 = v5 then (if v5 = 0 then (if v9 = 0 then (if (lg_cmp ((s10 564 0).toInt64) (Int64.ofNat 0)) = 0 then (some (.inl (x4 + 7, (s10, ex + k7)))) else (some (.inr (0, (s10, ex + k7))))) else (if (lg_cmp ((s10 564 0).toInt64) (Int64.ofNat 1)) = 0 then (some (.inl (x4 + 7, (s10, ex + k7)))) else (some (.inr (0, (s10, ex + k7)))))) else (some (.inl (x4 + 7, (s10, ex + k7))))) else (some (.inr (0, (s10, ex + k7)))))) else none else none else none)
set_option maxHeartbeats 10000000 in
set_option maxRecDepth 100000 in
theorem P251_510 {d ex : Nat} {rr : m_R} {s : g_S} {x4 : Int32} {u5 u6 : Option Value} {z : (Int32 × (g_S × Nat)) ⊕ (Int32 × (g_S × Nat))} (H : f251_510 X s ex x4 = some z) (hd : 86 ≤ d) (K0 : ∀ S : Int32 × (g_S × Nat), z = .inl S → ∀ u5 u6 : Option Value, n_R X (d + 1) 251 13 [some (.ref 1000000), some (.ref 0), some (.ref 199), some (.ref 564), some (.int S.1), u5, u6] [] (g_M S.2.1 S.2.2) rr) (Kr : ∀ q, z = .inr q → g_rL q = rr) : n_R X (d + 1) 251 510 [some (.ref 1000000), some (.ref 0), some (.ref 199), some (.ref 564), some (.int x4), u5, u6] [] (g_M s ex) rr := by
  unfold f251_510 at H
  refine g_go 5 md_251 (i1 := 515) rfl ?_
  obtain ⟨h1, H⟩ := g_gd H
  refine n_scr (n_q md_251 rfl) h1 ?_
  refine g_go 4 md_251 (i1 := 520) rfl ?_
  obtain ⟨h2, H⟩ := g_gd H
  refine n_scr (n_q md_251 rfl) h2 ?_
  refine g_go 4 md_251 (i1 := 525) rfl ?_
  obtain ⟨h3, H⟩ := g_gd H
  refine n_scr (n_q md_251 rfl) h3 ?_
  by_cases h4 : (X.2 (x4 + 3).toNatClampNeg) = 0
  · rw [if_pos h4] at H
    refine n_ifT (n_q md_251 rfl) (decide_eq_true h4) ?_
    refine g_go 2 md_251 (i1 := 531) rfl ?_
    obtain ⟨v5, k7, s6, hv5, H⟩ := g_wdp H
    refine n_callv (n_q md_251 rfl) (As := [.ref 0, .int (X.2 (x4 + 1).toNatClampNeg), .int (X.2 (x4 + 2).toNatClampNeg), .int 0, .ref 564]) (rest := []) rfl rfl (Nat.le_of_ble_eq_true rfl) rfl rfl (C230 (by omega) hv5) ?_
    refine g_go 6 md_251 (i1 := 538) (ls1 := [some (.ref 1000000), some (.ref 0), some (.ref 199), some (.ref 564), some (.int x4), some (.int v5), u6]) rfl ?_
    refine n_scr (n_q md_251 rfl) h1 ?_
    refine g_go 4 md_251 (i1 := 543) rfl ?_
    refine n_scr (n_q md_251 rfl) h2 ?_
    refine g_go 4 md_251 (i1 := 548) rfl ?_
    refine n_scr (n_q md_251 rfl) h3 ?_
    by_cases h8 : (X.2 (x4 + 3).toNatClampNeg) = 0
    · rw [if_pos h8] at H
      refine n_ifT (n_q md_251 rfl) (decide_eq_true h8) ?_
      refine g_go 1 md_251 (i1 := 553) rfl ?_
      obtain ⟨v9, s10, hv9, H⟩ := g_bdp H
      refine n_callv (n_q md_251 rfl) (As := [.ref 199, .int (X.2 (x4 + 1).toNatClampNeg), .int (X.2 (x4 + 2).toNatClampNeg), .int 0]) (rest := []) rfl rfl (Nat.le_of_ble_eq_true rfl) rfl (g_recv (b := 0) rfl t_199 rfl) (C177 (by omega) hv9) ?_
      refine g_go 2 md_251 (i1 := 556) (ls1 := [some (.ref 1000000), some (.ref 0), some (.ref 199), some (.ref 564), some (.int x4), some (.int v5), some (.int v9)]) rfl ?_
      obtain ⟨v11, hv11, H⟩ := g_bind H
      refine n_callv (n_q md_251 rfl) (As := [.ref 199]) (rest := []) rfl rfl (Nat.le_of_ble_eq_true rfl) rfl (g_recv (b := 0) rfl t_199 rfl) (C133 (by omega) hv11) ?_
      refine g_go 1 md_251 (i1 := 558) rfl ?_
      by_cases h12 : v11 = v5
      · rw [if_pos h12] at H
        refine n_cmpT (n_q md_251 rfl) (decide_eq_true h12) ?_
        refine g_go 1 md_251 (i1 := 562) rfl ?_
        by_cases h13 : v5 = 0
        · rw [if_pos h13] at H
          refine n_ifF (n_q md_251 rfl) (fun e1 => of_decide_eq_true e1 h13) ?_
          refine g_go 2 md_251 (i1 := 565) rfl ?_
          refine g_lald (n_q md_251 rfl) ?_
          refine g_go 1 md_251 (i1 := 567) rfl ?_
          by_cases h14 : v9 = 0
          · rw [if_pos h14] at H
            refine n_ifT (n_q md_251 rfl) (decide_eq_true h14) ?_
            refine g_go 1 md_251 (i1 := 571) rfl ?_
            refine n_go (n_q md_251 rfl) (fun _ => rfl) ?_
            by_cases h15 : (lg_cmp ((s10 564 0).toInt64) (Int64.ofNat 0)) = 0
            · rw [if_pos h15] at H
              refine n_ifT (n_q md_251 rfl) (decide_eq_true h15) ?_
              refine g_go 3 md_251 (i1 := 13) (ls1 := [some (.ref 1000000), some (.ref 0), some (.ref 199), some (.ref 564), some (.int (x4 + 7)), some (.int v5), some (.int v9)]) rfl ?_
              cases H
              exact K0 (x4 + 7, (s10, ex + k7)) rfl _ _
            · rw [if_neg h15] at H
              refine n_ifF (n_q md_251 rfl) (fun e1 => h15 (of_decide_eq_true e1)) ?_
              refine g_go 1 md_251 (i1 := 574) rfl ?_
              cases H
              rw [← Kr _ rfl]
              exact n_iret (n_q md_251 rfl) (Or.inr rfl)
          · rw [if_neg h14] at H
            refine n_ifF (n_q md_251 rfl) (fun e1 => h14 (of_decide_eq_true e1)) ?_
            refine g_go 2 md_251 (i1 := 571) rfl ?_
            refine n_go (n_q md_251 rfl) (fun _ => rfl) ?_
            by_cases h15 : (lg_cmp ((s10 564 0).toInt64) (Int64.ofNat 1)) = 0
            · rw [if_pos h15] at H
              refine n_ifT (n_q md_251 rfl) (decide_eq_true h15) ?_
              refine g_go 3 md_251 (i1 := 13) (ls1 := [some (.ref 1000000), some (.ref 0), some (.ref 199), some (.ref 564), some (.int (x4 + 7)), some (.int v5), some (.int v9)]) rfl ?_
              cases H
              exact K0 (x4 + 7, (s10, ex + k7)) rfl _ _
            · rw [if_neg h15] at H
              refine n_ifF (n_q md_251 rfl) (fun e1 => h15 (of_decide_eq_true e1)) ?_
              refine g_go 1 md_251 (i1 := 574) rfl ?_
              cases H
              rw [← Kr _ rfl]
              exact n_iret (n_q md_251 rfl) (Or.inr rfl)
        · rw [if_neg h13] at H
          refine n_ifT (n_q md_251 rfl) (decide_eq_true h13) ?_
          refine g_go 3 md_251 (i1 := 13) (ls1 := [some (.ref 1000000), some (.ref 0), some (.ref 199), some (.ref 564), some (.int (x4 + 7)), some (.int v5), some (.int v9)]) rfl ?_
          cases H
          exact K0 (x4 + 7, (s10, ex + k7)) rfl _ _
      · rw [if_neg h12] at H
        refine n_cmpF (n_q md_251 rfl) (fun e1 => h12 (of_decide_eq_true e1)) ?_
        refine g_go 1 md_251 (i1 := 560) rfl ?_
        cases H
        rw [← Kr _ rfl]
        exact n_iret (n_q md_251 rfl) (Or.inr rfl)
    · rw [if_neg h8] at H
      refine n_ifF (n_q md_251 rfl) (fun e1 => h8 (of_decide_eq_true e1)) ?_
      refine g_go 2 md_251 (i1 := 553) rfl ?_
      obtain ⟨v9, s10, hv9, H⟩ := g_bdp H
      refine n_callv (n_q md_251 rfl) (As := [.ref 199, .int (X.2 (x4 + 1).toNatClampNeg), .int (X.2 (x4 + 2).toNatClampNeg), .int 1]) (rest := []) rfl rfl (Nat.le_of_ble_eq_true rfl) rfl (g_recv (b := 0) rfl t_199 rfl) (C177 (by omega) hv9) ?_
      refine g_go 2 md_251 (i1 := 556) (ls1 := [some (.ref 1000000), some (.ref 0), some (.ref 199), some (.ref 564), some (.int x4), some (.int v5), some (.int v9)]) rfl ?_
      obtain ⟨v11, hv11, H⟩ := g_bind H
      refine n_callv (n_q md_251 rfl) (As := [.ref 199]) (rest := []) rfl rfl (Nat.le_of_ble_eq_true rfl) rfl (g_recv (b := 0) rfl t_199 rfl) (C133 (by omega) hv11) ?_
      refine g_go 1 md_251 (i1 := 558) rfl ?_
      by_cases h12 : v11 = v5
      · rw [if_pos h12] at H
        refine n_cmpT (n_q md_251 rfl) (decide_eq_true h12) ?_
        refine g_go 1 md_251 (i1 := 562) rfl ?_
        by_cases h13 : v5 = 0
        · rw [if_pos h13] at H
          refine n_ifF (n_q md_251 rfl) (fun e1 => of_decide_eq_true e1 h13) ?_
          refine g_go 2 md_251 (i1 := 565) rfl ?_
          refine g_lald (n_q md_251 rfl) ?_
          refine g_go 1 md_251 (i1 := 567) rfl ?_
          by_cases h14 : v9 = 0
          · rw [if_pos h14] at H
            refine n_ifT (n_q md_251 rfl) (decide_eq_true h14) ?_
            refine g_go 1 md_251 (i1 := 571) rfl ?_
            refine n_go (n_q md_251 rfl) (fun _ => rfl) ?_
            by_cases h15 : (lg_cmp ((s10 564 0).toInt64) (Int64.ofNat 0)) = 0
            · rw [if_pos h15] at H
              refine n_ifT (n_q md_251 rfl) (decide_eq_true h15) ?_
              refine g_go 3 md_251 (i1 := 13) (ls1 := [some (.ref 1000000), some (.ref 0), some (.ref 199), some (.ref 564), some (.int (x4 + 7)), some (.int v5), some (.int v9)]) rfl ?_
              cases H
              exact K0 (x4 + 7, (s10, ex + k7)) rfl _ _
            · rw [if_neg h15] at H
              refine n_ifF (n_q md_251 rfl) (fun e1 => h15 (of_decide_eq_true e1)) ?_
              refine g_go 1 md_251 (i1 := 574) rfl ?_
              cases H
              rw [← Kr _ rfl]
              exact n_iret (n_q md_251 rfl) (Or.inr rfl)
          · rw [if_neg h14] at H
            refine n_ifF (n_q md_251 rfl) (fun e1 => h14 (of_decide_eq_true e1)) ?_
            refine g_go 2 md_251 (i1 := 571) rfl ?_
            refine n_go (n_q md_251 rfl) (fun _ => rfl) ?_
            by_cases h15 : (lg_cmp ((s10 564 0).toInt64) (Int64.ofNat 1)) = 0
            · rw [if_pos h15] at H
              refine n_ifT (n_q md_251 rfl) (decide_eq_true h15) ?_
              refine g_go 3 md_251 (i1 := 13) (ls1 := [some (.ref 1000000), some (.ref 0), some (.ref 199), some (.ref 564), some (.int (x4 + 7)), some (.int v5), some (.int v9)]) rfl ?_
              cases H
              exact K0 (x4 + 7, (s10, ex + k7)) rfl _ _
            · rw [if_neg h15] at H
              refine n_ifF (n_q md_251 rfl) (fun e1 => h15 (of_decide_eq_true e1)) ?_
              refine g_go 1 md_251 (i1 := 574) rfl ?_
              cases H
              rw [← Kr _ rfl]
              exact n_iret (n_q md_251 rfl) (Or.inr rfl)
        · rw [if_neg h13] at H
          refine n_ifT (n_q md_251 rfl) (decide_eq_true h13) ?_
          refine g_go 3 md_251 (i1 := 13) (ls1 := [some (.ref 1000000), some (.ref 0), some (.ref 199), some (.ref 564), some (.int (x4 + 7)), some (.int v5), some (.int v9)]) rfl ?_
          cases H
          exact K0 (x4 + 7, (s10, ex + k7)) rfl _ _
      · rw [if_neg h12] at H
        refine n_cmpF (n_q md_251 rfl) (fun e1 => h12 (of_decide_eq_true e1)) ?_
        refine g_go 1 md_251 (i1 := 560) rfl ?_
        cases H
        rw [← Kr _ rfl]
        exact n_iret (n_q md_251 rfl) (Or.inr rfl)
  · rw [if_neg h4] at H
    refine n_ifF (n_q md_251 rfl) (fun e1 => h4 (of_decide_eq_true e1)) ?_
    refine g_go 3 md_251 (i1 := 531) rfl ?_
    obtain ⟨v5, k7, s6, hv5, H⟩ := g_wdp H
    refine n_callv (n_q md_251 rfl) (As := [.ref 0, .int (X.2 (x4 + 1).toNatClampNeg), .int (X.2 (x4 + 2).toNatClampNeg), .int 1, .ref 564]) (rest := []) rfl rfl (Nat.le_of_ble_eq_true rfl) rfl rfl (C230 (by omega) hv5) ?_
    refine g_go 6 md_251 (i1 := 538) (ls1 := [some (.ref 1000000), some (.ref 0), some (.ref 199), some (.ref 564), some (.int x4), some (.int v5), u6]) rfl ?_
    refine n_scr (n_q md_251 rfl) h1 ?_
    refine g_go 4 md_251 (i1 := 543) rfl ?_
    refine n_scr (n_q md_251 rfl) h2 ?_
    refine g_go 4 md_251 (i1 := 548) rfl ?_
    refine n_scr (n_q md_251 rfl) h3 ?_
    by_cases h8 : (X.2 (x4 + 3).toNatClampNeg) = 0
    · rw [if_pos h8] at H
      refine n_ifT (n_q md_251 rfl) (decide_eq_true h8) ?_
      refine g_go 1 md_251 (i1 := 553) rfl ?_
      obtain ⟨v9, s10, hv9, H⟩ := g_bdp H
      refine n_callv (n_q md_251 rfl) (As := [.ref 199, .int (X.2 (x4 + 1).toNatClampNeg), .int (X.2 (x4 + 2).toNatClampNeg), .int 0]) (rest := []) rfl rfl (Nat.le_of_ble_eq_true rfl) rfl (g_recv (b := 0) rfl t_199 rfl) (C177 (by omega) hv9) ?_
      refine g_go 2 md_251 (i1 := 556) (ls1 := [some (.ref 1000000), some (.ref 0), some (.ref 199), some (.ref 564), some (.int x4), some (.int v5), some (.int v9)]) rfl ?_
      obtain ⟨v11, hv11, H⟩ := g_bind H
      refine n_callv (n_q md_251 rfl) (As := [.ref 199]) (rest := []) rfl rfl (Nat.le_of_ble_eq_true rfl) rfl (g_recv (b := 0) rfl t_199 rfl) (C133 (by omega) hv11) ?_
      refine g_go 1 md_251 (i1 := 558) rfl ?_
      by_cases h12 : v11 = v5
      · rw [if_pos h12] at H
        refine n_cmpT (n_q md_251 rfl) (decide_eq_true h12) ?_
        refine g_go 1 md_251 (i1 := 562) rfl ?_
        by_cases h13 : v5 = 0
        · rw [if_pos h13] at H
          refine n_ifF (n_q md_251 rfl) (fun e1 => of_decide_eq_true e1 h13) ?_
          refine g_go 2 md_251 (i1 := 565) rfl ?_
          refine g_lald (n_q md_251 rfl) ?_
          refine g_go 1 md_251 (i1 := 567) rfl ?_
          by_cases h14 : v9 = 0
          · rw [if_pos h14] at H
            refine n_ifT (n_q md_251 rfl) (decide_eq_true h14) ?_
            refine g_go 1 md_251 (i1 := 571) rfl ?_
            refine n_go (n_q md_251 rfl) (fun _ => rfl) ?_
            by_cases h15 : (lg_cmp ((s10 564 0).toInt64) (Int64.ofNat 0)) = 0
            · rw [if_pos h15] at H
              refine n_ifT (n_q md_251 rfl) (decide_eq_true h15) ?_
              refine g_go 3 md_251 (i1 := 13) (ls1 := [some (.ref 1000000), some (.ref 0), some (.ref 199), some (.ref 564), some (.int (x4 + 7)), some (.int v5), some (.int v9)]) rfl ?_
              cases H
              exact K0 (x4 + 7, (s10, ex + k7)) rfl _ _
            · rw [if_neg h15] at H
              refine n_ifF (n_q md_251 rfl) (fun e1 => h15 (of_decide_eq_true e1)) ?_
              refine g_go 1 md_251 (i1 := 574) rfl ?_
              cases H
              rw [← Kr _ rfl]
              exact n_iret (n_q md_251 rfl) (Or.inr rfl)
          · rw [if_neg h14] at H
            refine n_ifF (n_q md_251 rfl) (fun e1 => h14 (of_decide_eq_true e1)) ?_
            refine g_go 2 md_251 (i1 := 571) rfl ?_
            refine n_go (n_q md_251 rfl) (fun _ => rfl) ?_
            by_cases h15 : (lg_cmp ((s10 564 0).toInt64) (Int64.ofNat 1)) = 0
            · rw [if_pos h15] at H
              refine n_ifT (n_q md_251 rfl) (decide_eq_true h15) ?_
              refine g_go 3 md_251 (i1 := 13) (ls1 := [some (.ref 1000000), some (.ref 0), some (.ref 199), some (.ref 564), some (.int (x4 + 7)), some (.int v5), some (.int v9)]) rfl ?_
              cases H
              exact K0 (x4 + 7, (s10, ex + k7)) rfl _ _
            · rw [if_neg h15] at H
              refine n_ifF (n_q md_251 rfl) (fun e1 => h15 (of_decide_eq_true e1)) ?_
              refine g_go 1 md_251 (i1 := 574) rfl ?_
              cases H
              rw [← Kr _ rfl]
              exact n_iret (n_q md_251 rfl) (Or.inr rfl)
        · rw [if_neg h13] at H
          refine n_ifT (n_q md_251 rfl) (decide_eq_true h13) ?_
          refine g_go 3 md_251 (i1 := 13) (ls1 := [some (.ref 1000000), some (.ref 0), some (.ref 199), some (.ref 564), some (.int (x4 + 7)), some (.int v5), some (.int v9)]) rfl ?_
          cases H
          exact K0 (x4 + 7, (s10, ex + k7)) rfl _ _
      · rw [if_neg h12] at H
        refine n_cmpF (n_q md_251 rfl) (fun e1 => h12 (of_decide_eq_true e1)) ?_
        refine g_go 1 md_251 (i1 := 560) rfl ?_
        cases H
        rw [← Kr _ rfl]
        exact n_iret (n_q md_251 rfl) (Or.inr rfl)
    · rw [if_neg h8] at H
      refine n_ifF (n_q md_251 rfl) (fun e1 => h8 (of_decide_eq_true e1)) ?_
      refine g_go 2 md_251 (i1 := 553) rfl ?_
      obtain ⟨v9, s10, hv9, H⟩ := g_bdp H
      refine n_callv (n_q md_251 rfl) (As := [.ref 199, .int (X.2 (x4 + 1).toNatClampNeg), .int (X.2 (x4 + 2).toNatClampNeg), .int 1]) (rest := []) rfl rfl (Nat.le_of_ble_eq_true rfl) rfl (g_recv (b := 0) rfl t_199 rfl) (C177 (by omega) hv9) ?_
      refine g_go 2 md_251 (i1 := 556) (ls1 := [some (.ref 1000000), some (.ref 0), some (.ref 199), some (.ref 564), some (.int x4), some (.int v5), some (.int v9)]) rfl ?_
      obtain ⟨v11, hv11, H⟩ := g_bind H
      refine n_callv (n_q md_251 rfl) (As := [.ref 199]) (rest := []) rfl rfl (Nat.le_of_ble_eq_true rfl) rfl (g_recv (b := 0) rfl t_199 rfl) (C133 (by omega) hv11) ?_
      refine g_go 1 md_251 (i1 := 558) rfl ?_
      by_cases h12 : v11 = v5
      · rw [if_pos h12] at H
        refine n_cmpT (n_q md_251 rfl) (decide_eq_true h12) ?_
        refine g_go 1 md_251 (i1 := 562) rfl ?_
        by_cases h13 : v5 = 0
        · rw [if_pos h13] at H
          refine n_ifF (n_q md_251 rfl) (fun e1 => of_decide_eq_true e1 h13) ?_
          refine g_go 2 md_251 (i1 := 565) rfl ?_
          refine g_lald (n_q md_251 rfl) ?_
          refine g_go 1 md_251 (i1 := 567) rfl ?_
          by_cases h14 : v9 = 0
          · rw [if_pos h14] at H
            refine n_ifT (n_q md_251 rfl) (decide_eq_true h14) ?_
            refine g_go 1 md_251 (i1 := 571) rfl ?_
            refine n_go (n_q md_251 rfl) (fun _ => rfl) ?_
            by_cases h15 : (lg_cmp ((s10 564 0).toInt64) (Int64.ofNat 0)) = 0
            · rw [if_pos h15] at H
              refine n_ifT (n_q md_251 rfl) (decide_eq_true h15) ?_
              refine g_go 3 md_251 (i1 := 13) (ls1 := [some (.ref 1000000), some (.ref 0), some (.ref 199), some (.ref 564), some (.int (x4 + 7)), some (.int v5), some (.int v9)]) rfl ?_
              cases H
              exact K0 (x4 + 7, (s10, ex + k7)) rfl _ _
            · rw [if_neg h15] at H
              refine n_ifF (n_q md_251 rfl) (fun e1 => h15 (of_decide_eq_true e1)) ?_
              refine g_go 1 md_251 (i1 := 574) rfl ?_
              cases H
              rw [← Kr _ rfl]
              exact n_iret (n_q md_251 rfl) (Or.inr rfl)
          · rw [if_neg h14] at H
            refine n_ifF (n_q md_251 rfl) (fun e1 => h14 (of_decide_eq_true e1)) ?_
            refine g_go 2 md_251 (i1 := 571) rfl ?_
            refine n_go (n_q md_251 rfl) (fun _ => rfl) ?_
            by_cases h15 : (lg_cmp ((s10 564 0).toInt64) (Int64.ofNat 1)) = 0
            · rw [if_pos h15] at H
              refine n_ifT (n_q md_251 rfl) (decide_eq_true h15) ?_
              refine g_go 3 md_251 (i1 := 13) (ls1 := [some (.ref 1000000), some (.ref 0), some (.ref 199), some (.ref 564), some (.int (x4 + 7)), some (.int v5), some (.int v9)]) rfl ?_
              cases H
              exact K0 (x4 + 7, (s10, ex + k7)) rfl _ _
            · rw [if_neg h15] at H
              refine n_ifF (n_q md_251 rfl) (fun e1 => h15 (of_decide_eq_true e1)) ?_
              refine g_go 1 md_251 (i1 := 574) rfl ?_
              cases H
              rw [← Kr _ rfl]
              exact n_iret (n_q md_251 rfl) (Or.inr rfl)
        · rw [if_neg h13] at H
          refine n_ifT (n_q md_251 rfl) (decide_eq_true h13) ?_
          refine g_go 3 md_251 (i1 := 13) (ls1 := [some (.ref 1000000), some (.ref 0), some (.ref 199), some (.ref 564), some (.int (x4 + 7)), some (.int v5), some (.int v9)]) rfl ?_
          cases H
          exact K0 (x4 + 7, (s10, ex + k7)) rfl _ _
      · rw [if_neg h12] at H
        refine n_cmpF (n_q md_251 rfl) (fun e1 => h12 (of_decide_eq_true e1)) ?_
        refine g_go 1 md_251 (i1 := 560) rfl ?_
        cases H
        rw [← Kr _ rfl]
        exact n_iret (n_q md_251 rfl) (Or.inr rfl)
noncomputable def f251_576 (X : m_X) (s : g_S) (ex : Nat) (x4 : Int32) : Option ((Int32 × (g_S × Nat)) ⊕ (Int32 × (g_S × Nat))) := (if m_in (x4 + 1) X.1 = true then if m_in (x4 + 2) X.1 = true then g_wd (f231 s (X.2 (x4 + 1).toNatClampNeg) (X.2 (x4 + 2).toNatClampNeg)) fun v3 k5 s4 => g_bd (f178 s4 (X.2 (x4 + 1).toNatClampNeg) (X.2 (x4 + 2).toNatClampNeg)) fun v6 s7 => (f133 s7).bind fun v8 => if v8 = v3 then (if v3 = 0 then (if (lg_cmp ((s7 564 0).toInt64) v6.toInt64) = 0 then (some (.inl (x4 + 7, (s7, ex + k5)))) else (some (.inr (0, (s7, ex + k5))))) else (some (.inl (x4 + 7, (s7, ex + k5))))) else (some (.inr (0, (s7, ex + k5)))) else none else none)
set_option maxHeartbeats 10000000 in
set_option maxRecDepth 100000 in
theorem P251_576 {d ex : Nat} {rr : m_R} {s : g_S} {x4 : Int32} {u5 u6 : Option Value} {z : (Int32 × (g_S × Nat)) ⊕ (Int32 × (g_S × Nat))} (H : f251_576 X s ex x4 = some z) (hd : 86 ≤ d) (K0 : ∀ S : Int32 × (g_S × Nat), z = .inl S → ∀ u5 u6 : Option Value, n_R X (d + 1) 251 13 [some (.ref 1000000), some (.ref 0), some (.ref 199), some (.ref 564), some (.int S.1), u5, u6] [] (g_M S.2.1 S.2.2) rr) (Kr : ∀ q, z = .inr q → g_rL q = rr) : n_R X (d + 1) 251 576 [some (.ref 1000000), some (.ref 0), some (.ref 199), some (.ref 564), some (.int x4), u5, u6] [] (g_M s ex) rr := by
  unfold f251_576 at H
  refine g_go 5 md_251 (i1 := 581) rfl ?_
  obtain ⟨h1, H⟩ := g_gd H
  refine n_scr (n_q md_251 rfl) h1 ?_
  refine g_go 4 md_251 (i1 := 586) rfl ?_
  obtain ⟨h2, H⟩ := g_gd H
  refine n_scr (n_q md_251 rfl) h2 ?_
  refine g_go 1 md_251 (i1 := 588) rfl ?_
  obtain ⟨v3, k5, s4, hv3, H⟩ := g_wdp H
  refine n_callv (n_q md_251 rfl) (As := [.ref 0, .int (X.2 (x4 + 1).toNatClampNeg), .int (X.2 (x4 + 2).toNatClampNeg), .ref 564]) (rest := []) rfl rfl (Nat.le_of_ble_eq_true rfl) rfl rfl (C231 (by omega) hv3) ?_
  refine g_go 6 md_251 (i1 := 595) (ls1 := [some (.ref 1000000), some (.ref 0), some (.ref 199), some (.ref 564), some (.int x4), some (.int v3), u6]) rfl ?_
  refine n_scr (n_q md_251 rfl) h1 ?_
  refine g_go 4 md_251 (i1 := 600) rfl ?_
  refine n_scr (n_q md_251 rfl) h2 ?_
  obtain ⟨v6, s7, hv6, H⟩ := g_bdp H
  refine n_callv (n_q md_251 rfl) (As := [.ref 199, .int (X.2 (x4 + 1).toNatClampNeg), .int (X.2 (x4 + 2).toNatClampNeg)]) (rest := []) rfl rfl (Nat.le_of_ble_eq_true rfl) rfl (g_recv (b := 0) rfl t_199 rfl) (C178 (by omega) hv6) ?_
  refine g_go 2 md_251 (i1 := 604) (ls1 := [some (.ref 1000000), some (.ref 0), some (.ref 199), some (.ref 564), some (.int x4), some (.int v3), some (.int v6)]) rfl ?_
  obtain ⟨v8, hv8, H⟩ := g_bind H
  refine n_callv (n_q md_251 rfl) (As := [.ref 199]) (rest := []) rfl rfl (Nat.le_of_ble_eq_true rfl) rfl (g_recv (b := 0) rfl t_199 rfl) (C133 (by omega) hv8) ?_
  refine g_go 1 md_251 (i1 := 606) rfl ?_
  by_cases h9 : v8 = v3
  · rw [if_pos h9] at H
    refine n_cmpT (n_q md_251 rfl) (decide_eq_true h9) ?_
    refine g_go 1 md_251 (i1 := 610) rfl ?_
    by_cases h10 : v3 = 0
    · rw [if_pos h10] at H
      refine n_ifF (n_q md_251 rfl) (fun e1 => of_decide_eq_true e1 h10) ?_
      refine g_go 2 md_251 (i1 := 613) rfl ?_
      refine g_lald (n_q md_251 rfl) ?_
      refine g_go 2 md_251 (i1 := 616) rfl ?_
      refine n_go (n_q md_251 rfl) (fun _ => rfl) ?_
      by_cases h11 : (lg_cmp ((s7 564 0).toInt64) v6.toInt64) = 0
      · rw [if_pos h11] at H
        refine n_ifT (n_q md_251 rfl) (decide_eq_true h11) ?_
        refine g_go 3 md_251 (i1 := 13) (ls1 := [some (.ref 1000000), some (.ref 0), some (.ref 199), some (.ref 564), some (.int (x4 + 7)), some (.int v3), some (.int v6)]) rfl ?_
        cases H
        exact K0 (x4 + 7, (s7, ex + k5)) rfl _ _
      · rw [if_neg h11] at H
        refine n_ifF (n_q md_251 rfl) (fun e1 => h11 (of_decide_eq_true e1)) ?_
        refine g_go 1 md_251 (i1 := 619) rfl ?_
        cases H
        rw [← Kr _ rfl]
        exact n_iret (n_q md_251 rfl) (Or.inr rfl)
    · rw [if_neg h10] at H
      refine n_ifT (n_q md_251 rfl) (decide_eq_true h10) ?_
      refine g_go 3 md_251 (i1 := 13) (ls1 := [some (.ref 1000000), some (.ref 0), some (.ref 199), some (.ref 564), some (.int (x4 + 7)), some (.int v3), some (.int v6)]) rfl ?_
      cases H
      exact K0 (x4 + 7, (s7, ex + k5)) rfl _ _
  · rw [if_neg h9] at H
    refine n_cmpF (n_q md_251 rfl) (fun e1 => h9 (of_decide_eq_true e1)) ?_
    refine g_go 1 md_251 (i1 := 608) rfl ?_
    cases H
    rw [← Kr _ rfl]
    exact n_iret (n_q md_251 rfl) (Or.inr rfl)
noncomputable def f251_621 (X : m_X) (s : g_S) (ex : Nat) (x4 : Int32) : Option ((Int32 × (g_S × Nat)) ⊕ (Int32 × (g_S × Nat))) := ((f90 s).bind fun v1 => g_bd (f183 s) fun v2 s3 => if v1 = v2 then (some (.inl (x4 + 7, (s3, ex)))) else (some (.inr (0, (s3, ex)))))
set_option maxHeartbeats 10000000 in
set_option maxRecDepth 100000 in
theorem P251_621 {d ex : Nat} {rr : m_R} {s : g_S} {x4 : Int32} {u5 u6 : Option Value} {z : (Int32 × (g_S × Nat)) ⊕ (Int32 × (g_S × Nat))} (H : f251_621 X s ex x4 = some z) (hd : 86 ≤ d) (K0 : ∀ S : Int32 × (g_S × Nat), z = .inl S → ∀ u5 u6 : Option Value, n_R X (d + 1) 251 13 [some (.ref 1000000), some (.ref 0), some (.ref 199), some (.ref 564), some (.int S.1), u5, u6] [] (g_M S.2.1 S.2.2) rr) (Kr : ∀ q, z = .inr q → g_rL q = rr) : n_R X (d + 1) 251 621 [some (.ref 1000000), some (.ref 0), some (.ref 199), some (.ref 564), some (.int x4), u5, u6] [] (g_M s ex) rr := by
  unfold f251_621 at H
  refine g_go 1 md_251 (i1 := 622) rfl ?_
  obtain ⟨v1, hv1, H⟩ := g_bind H
  refine n_callv (n_q md_251 rfl) (As := [.ref 0]) (rest := []) rfl rfl (Nat.le_of_ble_eq_true rfl) rfl (g_recv (b := 0) rfl t_0 rfl) (C90 (by omega) hv1) ?_
  refine g_go 1 md_251 (i1 := 624) rfl ?_
  obtain ⟨v2, s3, hv2, H⟩ := g_bdp H
  refine n_callv (n_q md_251 rfl) (As := [.ref 199]) (rest := [.int v1]) rfl rfl (Nat.le_of_ble_eq_true rfl) rfl (g_recv (b := 0) rfl t_199 rfl) (C183 (by omega) hv2) ?_
  by_cases h4 : v1 = v2
  · rw [if_pos h4] at H
    refine n_cmpT (n_q md_251 rfl) (decide_eq_true h4) ?_
    refine g_go 2 md_251 (i1 := 13) (ls1 := [some (.ref 1000000), some (.ref 0), some (.ref 199), some (.ref 564), some (.int (x4 + 7)), u5, u6]) rfl ?_
    cases H
    exact K0 (x4 + 7, (s3, ex)) rfl _ _
  · rw [if_neg h4] at H
    refine n_cmpF (n_q md_251 rfl) (fun e1 => h4 (of_decide_eq_true e1)) ?_
    refine g_go 1 md_251 (i1 := 627) rfl ?_
    cases H
    rw [← Kr _ rfl]
    exact n_iret (n_q md_251 rfl) (Or.inr rfl)
noncomputable def f251_628 (X : m_X) (s : g_S) (ex : Nat) (x4 : Int32) : Option ((Int32 × (g_S × Nat)) ⊕ (Int32 × (g_S × Nat))) := (if m_in (x4 + 1) X.1 = true then if m_in (x4 + 2) X.1 = true then g_wd (f232 s (X.2 (x4 + 1).toNatClampNeg) (X.2 (x4 + 2).toNatClampNeg)) fun v3 k5 s4 => g_bd (f185 s4 (X.2 (x4 + 1).toNatClampNeg) (X.2 (x4 + 2).toNatClampNeg)) fun v6 s7 => (f133 s7).bind fun v8 => if v8 = v3 then (if v3 = 0 then (if (lg_cmp ((s7 564 0).toInt64) v6.toInt64) = 0 then (some (.inl (x4 + 7, (s7, ex + k5)))) else (some (.inr (0, (s7, ex + k5))))) else (some (.inl (x4 + 7, (s7, ex + k5))))) else (some (.inr (0, (s7, ex + k5)))) else none else none)
set_option maxHeartbeats 10000000 in
set_option maxRecDepth 100000 in
theorem P251_628 {d ex : Nat} {rr : m_R} {s : g_S} {x4 : Int32} {u5 u6 : Option Value} {z : (Int32 × (g_S × Nat)) ⊕ (Int32 × (g_S × Nat))} (H : f251_628 X s ex x4 = some z) (hd : 86 ≤ d) (K0 : ∀ S : Int32 × (g_S × Nat), z = .inl S → ∀ u5 u6 : Option Value, n_R X (d + 1) 251 13 [some (.ref 1000000), some (.ref 0), some (.ref 199), some (.ref 564), some (.int S.1), u5, u6] [] (g_M S.2.1 S.2.2) rr) (Kr : ∀ q, z = .inr q → g_rL q = rr) : n_R X (d + 1) 251 628 [some (.ref 1000000), some (.ref 0), some (.ref 199), some (.ref 564), some (.int x4), u5, u6] [] (g_M s ex) rr := by
  unfold f251_628 at H
  refine g_go 5 md_251 (i1 := 633) rfl ?_
  obtain ⟨h1, H⟩ := g_gd H
  refine n_scr (n_q md_251 rfl) h1 ?_
  refine g_go 4 md_251 (i1 := 638) rfl ?_
  obtain ⟨h2, H⟩ := g_gd H
  refine n_scr (n_q md_251 rfl) h2 ?_
  refine g_go 1 md_251 (i1 := 640) rfl ?_
  obtain ⟨v3, k5, s4, hv3, H⟩ := g_wdp H
  refine n_callv (n_q md_251 rfl) (As := [.ref 0, .int (X.2 (x4 + 1).toNatClampNeg), .int (X.2 (x4 + 2).toNatClampNeg), .ref 564]) (rest := []) rfl rfl (Nat.le_of_ble_eq_true rfl) rfl rfl (C232 (by omega) hv3) ?_
  refine g_go 6 md_251 (i1 := 647) (ls1 := [some (.ref 1000000), some (.ref 0), some (.ref 199), some (.ref 564), some (.int x4), some (.int v3), u6]) rfl ?_
  refine n_scr (n_q md_251 rfl) h1 ?_
  refine g_go 4 md_251 (i1 := 652) rfl ?_
  refine n_scr (n_q md_251 rfl) h2 ?_
  obtain ⟨v6, s7, hv6, H⟩ := g_bdp H
  refine n_callv (n_q md_251 rfl) (As := [.ref 199, .int (X.2 (x4 + 1).toNatClampNeg), .int (X.2 (x4 + 2).toNatClampNeg)]) (rest := []) rfl rfl (Nat.le_of_ble_eq_true rfl) rfl (g_recv (b := 0) rfl t_199 rfl) (C185 (by omega) hv6) ?_
  refine g_go 2 md_251 (i1 := 656) (ls1 := [some (.ref 1000000), some (.ref 0), some (.ref 199), some (.ref 564), some (.int x4), some (.int v3), some (.int v6)]) rfl ?_
  obtain ⟨v8, hv8, H⟩ := g_bind H
  refine n_callv (n_q md_251 rfl) (As := [.ref 199]) (rest := []) rfl rfl (Nat.le_of_ble_eq_true rfl) rfl (g_recv (b := 0) rfl t_199 rfl) (C133 (by omega) hv8) ?_
  refine g_go 1 md_251 (i1 := 658) rfl ?_
  by_cases h9 : v8 = v3
  · rw [if_pos h9] at H
    refine n_cmpT (n_q md_251 rfl) (decide_eq_true h9) ?_
    refine g_go 1 md_251 (i1 := 662) rfl ?_
    by_cases h10 : v3 = 0
    · rw [if_pos h10] at H
      refine n_ifF (n_q md_251 rfl) (fun e1 => of_decide_eq_true e1 h10) ?_
      refine g_go 2 md_251 (i1 := 665) rfl ?_
      refine g_lald (n_q md_251 rfl) ?_
      refine g_go 2 md_251 (i1 := 668) rfl ?_
      refine n_go (n_q md_251 rfl) (fun _ => rfl) ?_
      by_cases h11 : (lg_cmp ((s7 564 0).toInt64) v6.toInt64) = 0
      · rw [if_pos h11] at H
        refine n_ifT (n_q md_251 rfl) (decide_eq_true h11) ?_
        refine g_go 3 md_251 (i1 := 13) (ls1 := [some (.ref 1000000), some (.ref 0), some (.ref 199), some (.ref 564), some (.int (x4 + 7)), some (.int v3), some (.int v6)]) rfl ?_
        cases H
        exact K0 (x4 + 7, (s7, ex + k5)) rfl _ _
      · rw [if_neg h11] at H
        refine n_ifF (n_q md_251 rfl) (fun e1 => h11 (of_decide_eq_true e1)) ?_
        refine g_go 1 md_251 (i1 := 671) rfl ?_
        cases H
        rw [← Kr _ rfl]
        exact n_iret (n_q md_251 rfl) (Or.inr rfl)
    · rw [if_neg h10] at H
      refine n_ifT (n_q md_251 rfl) (decide_eq_true h10) ?_
      refine g_go 3 md_251 (i1 := 13) (ls1 := [some (.ref 1000000), some (.ref 0), some (.ref 199), some (.ref 564), some (.int (x4 + 7)), some (.int v3), some (.int v6)]) rfl ?_
      cases H
      exact K0 (x4 + 7, (s7, ex + k5)) rfl _ _
  · rw [if_neg h9] at H
    refine n_cmpF (n_q md_251 rfl) (fun e1 => h9 (of_decide_eq_true e1)) ?_
    refine g_go 1 md_251 (i1 := 660) rfl ?_
    cases H
    rw [← Kr _ rfl]
    exact n_iret (n_q md_251 rfl) (Or.inr rfl)
noncomputable def f251_673 (X : m_X) (s : g_S) (ex : Nat) (x4 : Int32) : Option ((Int32 × (g_S × Nat)) ⊕ (Int32 × (g_S × Nat))) := (if m_in (x4 + 1) X.1 = true then g_wd (f233 s (X.2 (x4 + 1).toNatClampNeg)) fun v2 k4 s3 => g_bd (f186 s3 (X.2 (x4 + 1).toNatClampNeg)) fun v5 s6 => (f133 s6).bind fun v7 => if v7 = v2 then (if v2 = 0 then (if (lg_cmp ((s6 564 0).toInt64) v5.toInt64) = 0 then (some (.inl (x4 + 7, (s6, ex + k4)))) else (some (.inr (0, (s6, ex + k4))))) else (some (.inl (x4 + 7, (s6, ex + k4))))) else (some (.inr (0, (s6, ex + k4)))) else none)
set_option maxHeartbeats 10000000 in
set_option maxRecDepth 100000 in
theorem P251_673 {d ex : Nat} {rr : m_R} {s : g_S} {x4 : Int32} {u5 u6 : Option Value} {z : (Int32 × (g_S × Nat)) ⊕ (Int32 × (g_S × Nat))} (H : f251_673 X s ex x4 = some z) (hd : 86 ≤ d) (K0 : ∀ S : Int32 × (g_S × Nat), z = .inl S → ∀ u5 u6 : Option Value, n_R X (d + 1) 251 13 [some (.ref 1000000), some (.ref 0), some (.ref 199), some (.ref 564), some (.int S.1), u5, u6] [] (g_M S.2.1 S.2.2) rr) (Kr : ∀ q, z = .inr q → g_rL q = rr) : n_R X (d + 1) 251 673 [some (.ref 1000000), some (.ref 0), some (.ref 199), some (.ref 564), some (.int x4), u5, u6] [] (g_M s ex) rr := by
  unfold f251_673 at H
  refine g_go 5 md_251 (i1 := 678) rfl ?_
  obtain ⟨h1, H⟩ := g_gd H
  refine n_scr (n_q md_251 rfl) h1 ?_
  refine g_go 1 md_251 (i1 := 680) rfl ?_
  obtain ⟨v2, k4, s3, hv2, H⟩ := g_wdp H
  refine n_callv (n_q md_251 rfl) (As := [.ref 0, .int (X.2 (x4 + 1).toNatClampNeg), .ref 564]) (rest := []) rfl rfl (Nat.le_of_ble_eq_true rfl) rfl rfl (C233 (by omega) hv2) ?_
  refine g_go 6 md_251 (i1 := 687) (ls1 := [some (.ref 1000000), some (.ref 0), some (.ref 199), some (.ref 564), some (.int x4), some (.int v2), u6]) rfl ?_
  refine n_scr (n_q md_251 rfl) h1 ?_
  obtain ⟨v5, s6, hv5, H⟩ := g_bdp H
  refine n_callv (n_q md_251 rfl) (As := [.ref 199, .int (X.2 (x4 + 1).toNatClampNeg)]) (rest := []) rfl rfl (Nat.le_of_ble_eq_true rfl) rfl (g_recv (b := 0) rfl t_199 rfl) (C186 (by omega) hv5) ?_
  refine g_go 2 md_251 (i1 := 691) (ls1 := [some (.ref 1000000), some (.ref 0), some (.ref 199), some (.ref 564), some (.int x4), some (.int v2), some (.int v5)]) rfl ?_
  obtain ⟨v7, hv7, H⟩ := g_bind H
  refine n_callv (n_q md_251 rfl) (As := [.ref 199]) (rest := []) rfl rfl (Nat.le_of_ble_eq_true rfl) rfl (g_recv (b := 0) rfl t_199 rfl) (C133 (by omega) hv7) ?_
  refine g_go 1 md_251 (i1 := 693) rfl ?_
  by_cases h8 : v7 = v2
  · rw [if_pos h8] at H
    refine n_cmpT (n_q md_251 rfl) (decide_eq_true h8) ?_
    refine g_go 1 md_251 (i1 := 697) rfl ?_
    by_cases h9 : v2 = 0
    · rw [if_pos h9] at H
      refine n_ifF (n_q md_251 rfl) (fun e1 => of_decide_eq_true e1 h9) ?_
      refine g_go 2 md_251 (i1 := 700) rfl ?_
      refine g_lald (n_q md_251 rfl) ?_
      refine g_go 2 md_251 (i1 := 703) rfl ?_
      refine n_go (n_q md_251 rfl) (fun _ => rfl) ?_
      by_cases h10 : (lg_cmp ((s6 564 0).toInt64) v5.toInt64) = 0
      · rw [if_pos h10] at H
        refine n_ifT (n_q md_251 rfl) (decide_eq_true h10) ?_
        refine g_go 3 md_251 (i1 := 13) (ls1 := [some (.ref 1000000), some (.ref 0), some (.ref 199), some (.ref 564), some (.int (x4 + 7)), some (.int v2), some (.int v5)]) rfl ?_
        cases H
        exact K0 (x4 + 7, (s6, ex + k4)) rfl _ _
      · rw [if_neg h10] at H
        refine n_ifF (n_q md_251 rfl) (fun e1 => h10 (of_decide_eq_true e1)) ?_
        refine g_go 1 md_251 (i1 := 706) rfl ?_
        cases H
        rw [← Kr _ rfl]
        exact n_iret (n_q md_251 rfl) (Or.inr rfl)
    · rw [if_neg h9] at H
      refine n_ifT (n_q md_251 rfl) (decide_eq_true h9) ?_
      refine g_go 3 md_251 (i1 := 13) (ls1 := [some (.ref 1000000), some (.ref 0), some (.ref 199), some (.ref 564), some (.int (x4 + 7)), some (.int v2), some (.int v5)]) rfl ?_
      cases H
      exact K0 (x4 + 7, (s6, ex + k4)) rfl _ _
  · rw [if_neg h8] at H
    refine n_cmpF (n_q md_251 rfl) (fun e1 => h8 (of_decide_eq_true e1)) ?_
    refine g_go 1 md_251 (i1 := 695) rfl ?_
    cases H
    rw [← Kr _ rfl]
    exact n_iret (n_q md_251 rfl) (Or.inr rfl)
noncomputable def f251_708 (X : m_X) (s : g_S) (ex : Nat) (x4 : Int32) : Option ((Int32 × (g_S × Nat)) ⊕ (Int32 × (g_S × Nat))) := (if m_in (x4 + 1) X.1 = true then g_wd (f234 s (X.2 (x4 + 1).toNatClampNeg)) fun v2 k4 s3 => g_bd (f187 s3 (X.2 (x4 + 1).toNatClampNeg)) fun v5 s6 => (f133 s6).bind fun v7 => if v7 = v2 then (if v2 = 0 then (if (lg_cmp ((s6 564 0).toInt64) v5.toInt64) = 0 then (some (.inl (x4 + 7, (s6, ex + k4)))) else (some (.inr (0, (s6, ex + k4))))) else (some (.inl (x4 + 7, (s6, ex + k4))))) else (some (.inr (0, (s6, ex + k4)))) else none)
set_option maxHeartbeats 10000000 in
set_option maxRecDepth 100000 in
theorem P251_708 {d ex : Nat} {rr : m_R} {s : g_S} {x4 : Int32} {u5 u6 : Option Value} {z : (Int32 × (g_S × Nat)) ⊕ (Int32 × (g_S × Nat))} (H : f251_708 X s ex x4 = some z) (hd : 86 ≤ d) (K0 : ∀ S : Int32 × (g_S × Nat), z = .inl S → ∀ u5 u6 : Option Value, n_R X (d + 1) 251 13 [some (.ref 1000000), some (.ref 0), some (.ref 199), some (.ref 564), some (.int S.1), u5, u6] [] (g_M S.2.1 S.2.2) rr) (Kr : ∀ q, z = .inr q → g_rL q = rr) : n_R X (d + 1) 251 708 [some (.ref 1000000), some (.ref 0), some (.ref 199), some (.ref 564), some (.int x4), u5, u6] [] (g_M s ex) rr := by
  unfold f251_708 at H
  refine g_go 5 md_251 (i1 := 713) rfl ?_
  obtain ⟨h1, H⟩ := g_gd H
  refine n_scr (n_q md_251 rfl) h1 ?_
  refine g_go 1 md_251 (i1 := 715) rfl ?_
  obtain ⟨v2, k4, s3, hv2, H⟩ := g_wdp H
  refine n_callv (n_q md_251 rfl) (As := [.ref 0, .int (X.2 (x4 + 1).toNatClampNeg), .ref 564]) (rest := []) rfl rfl (Nat.le_of_ble_eq_true rfl) rfl rfl (C234 (by omega) hv2) ?_
  refine g_go 6 md_251 (i1 := 722) (ls1 := [some (.ref 1000000), some (.ref 0), some (.ref 199), some (.ref 564), some (.int x4), some (.int v2), u6]) rfl ?_
  refine n_scr (n_q md_251 rfl) h1 ?_
  obtain ⟨v5, s6, hv5, H⟩ := g_bdp H
  refine n_callv (n_q md_251 rfl) (As := [.ref 199, .int (X.2 (x4 + 1).toNatClampNeg)]) (rest := []) rfl rfl (Nat.le_of_ble_eq_true rfl) rfl (g_recv (b := 0) rfl t_199 rfl) (C187 (by omega) hv5) ?_
  refine g_go 2 md_251 (i1 := 726) (ls1 := [some (.ref 1000000), some (.ref 0), some (.ref 199), some (.ref 564), some (.int x4), some (.int v2), some (.int v5)]) rfl ?_
  obtain ⟨v7, hv7, H⟩ := g_bind H
  refine n_callv (n_q md_251 rfl) (As := [.ref 199]) (rest := []) rfl rfl (Nat.le_of_ble_eq_true rfl) rfl (g_recv (b := 0) rfl t_199 rfl) (C133 (by omega) hv7) ?_
  refine g_go 1 md_251 (i1 := 728) rfl ?_
  by_cases h8 : v7 = v2
  · rw [if_pos h8] at H
    refine n_cmpT (n_q md_251 rfl) (decide_eq_true h8) ?_
    refine g_go 1 md_251 (i1 := 732) rfl ?_
    by_cases h9 : v2 = 0
    · rw [if_pos h9] at H
      refine n_ifF (n_q md_251 rfl) (fun e1 => of_decide_eq_true e1 h9) ?_
      refine g_go 2 md_251 (i1 := 735) rfl ?_
      refine g_lald (n_q md_251 rfl) ?_
      refine g_go 2 md_251 (i1 := 738) rfl ?_
      refine n_go (n_q md_251 rfl) (fun _ => rfl) ?_
      by_cases h10 : (lg_cmp ((s6 564 0).toInt64) v5.toInt64) = 0
      · rw [if_pos h10] at H
        refine n_ifT (n_q md_251 rfl) (decide_eq_true h10) ?_
        refine g_go 3 md_251 (i1 := 13) (ls1 := [some (.ref 1000000), some (.ref 0), some (.ref 199), some (.ref 564), some (.int (x4 + 7)), some (.int v2), some (.int v5)]) rfl ?_
        cases H
        exact K0 (x4 + 7, (s6, ex + k4)) rfl _ _
      · rw [if_neg h10] at H
        refine n_ifF (n_q md_251 rfl) (fun e1 => h10 (of_decide_eq_true e1)) ?_
        refine g_go 1 md_251 (i1 := 741) rfl ?_
        cases H
        rw [← Kr _ rfl]
        exact n_iret (n_q md_251 rfl) (Or.inr rfl)
    · rw [if_neg h9] at H
      refine n_ifT (n_q md_251 rfl) (decide_eq_true h9) ?_
      refine g_go 3 md_251 (i1 := 13) (ls1 := [some (.ref 1000000), some (.ref 0), some (.ref 199), some (.ref 564), some (.int (x4 + 7)), some (.int v2), some (.int v5)]) rfl ?_
      cases H
      exact K0 (x4 + 7, (s6, ex + k4)) rfl _ _
  · rw [if_neg h8] at H
    refine n_cmpF (n_q md_251 rfl) (fun e1 => h8 (of_decide_eq_true e1)) ?_
    refine g_go 1 md_251 (i1 := 730) rfl ?_
    cases H
    rw [← Kr _ rfl]
    exact n_iret (n_q md_251 rfl) (Or.inr rfl)
noncomputable def f251_743 (X : m_X) (s : g_S) (ex : Nat) (x4 : Int32) : Option ((Int32 × (g_S × Nat)) ⊕ (Int32 × (g_S × Nat))) := (if m_in (x4 + 1) X.1 = true then g_wd (f235 s (X.2 (x4 + 1).toNatClampNeg)) fun v2 k4 s3 => g_bd (f188 s3 (X.2 (x4 + 1).toNatClampNeg)) fun v5 s6 => (f133 s6).bind fun v7 => if v7 = v2 then (if v2 = 0 then (if (lg_cmp ((s6 564 0).toInt64) v5.toInt64) = 0 then (some (.inl (x4 + 7, (s6, ex + k4)))) else (some (.inr (0, (s6, ex + k4))))) else (some (.inl (x4 + 7, (s6, ex + k4))))) else (some (.inr (0, (s6, ex + k4)))) else none)
set_option maxHeartbeats 10000000 in
set_option maxRecDepth 100000 in
theorem P251_743 {d ex : Nat} {rr : m_R} {s : g_S} {x4 : Int32} {u5 u6 : Option Value} {z : (Int32 × (g_S × Nat)) ⊕ (Int32 × (g_S × Nat))} (H : f251_743 X s ex x4 = some z) (hd : 86 ≤ d) (K0 : ∀ S : Int32 × (g_S × Nat), z = .inl S → ∀ u5 u6 : Option Value, n_R X (d + 1) 251 13 [some (.ref 1000000), some (.ref 0), some (.ref 199), some (.ref 564), some (.int S.1), u5, u6] [] (g_M S.2.1 S.2.2) rr) (Kr : ∀ q, z = .inr q → g_rL q = rr) : n_R X (d + 1) 251 743 [some (.ref 1000000), some (.ref 0), some (.ref 199), some (.ref 564), some (.int x4), u5, u6] [] (g_M s ex) rr := by
  unfold f251_743 at H
  refine g_go 5 md_251 (i1 := 748) rfl ?_
  obtain ⟨h1, H⟩ := g_gd H
  refine n_scr (n_q md_251 rfl) h1 ?_
  refine g_go 1 md_251 (i1 := 750) rfl ?_
  obtain ⟨v2, k4, s3, hv2, H⟩ := g_wdp H
  refine n_callv (n_q md_251 rfl) (As := [.ref 0, .int (X.2 (x4 + 1).toNatClampNeg), .ref 564]) (rest := []) rfl rfl (Nat.le_of_ble_eq_true rfl) rfl rfl (C235 (by omega) hv2) ?_
  refine g_go 6 md_251 (i1 := 757) (ls1 := [some (.ref 1000000), some (.ref 0), some (.ref 199), some (.ref 564), some (.int x4), some (.int v2), u6]) rfl ?_
  refine n_scr (n_q md_251 rfl) h1 ?_
  obtain ⟨v5, s6, hv5, H⟩ := g_bdp H
  refine n_callv (n_q md_251 rfl) (As := [.ref 199, .int (X.2 (x4 + 1).toNatClampNeg)]) (rest := []) rfl rfl (Nat.le_of_ble_eq_true rfl) rfl (g_recv (b := 0) rfl t_199 rfl) (C188 (by omega) hv5) ?_
  refine g_go 2 md_251 (i1 := 761) (ls1 := [some (.ref 1000000), some (.ref 0), some (.ref 199), some (.ref 564), some (.int x4), some (.int v2), some (.int v5)]) rfl ?_
  obtain ⟨v7, hv7, H⟩ := g_bind H
  refine n_callv (n_q md_251 rfl) (As := [.ref 199]) (rest := []) rfl rfl (Nat.le_of_ble_eq_true rfl) rfl (g_recv (b := 0) rfl t_199 rfl) (C133 (by omega) hv7) ?_
  refine g_go 1 md_251 (i1 := 763) rfl ?_
  by_cases h8 : v7 = v2
  · rw [if_pos h8] at H
    refine n_cmpT (n_q md_251 rfl) (decide_eq_true h8) ?_
    refine g_go 1 md_251 (i1 := 767) rfl ?_
    by_cases h9 : v2 = 0
    · rw [if_pos h9] at H
      refine n_ifF (n_q md_251 rfl) (fun e1 => of_decide_eq_true e1 h9) ?_
      refine g_go 2 md_251 (i1 := 770) rfl ?_
      refine g_lald (n_q md_251 rfl) ?_
      refine g_go 2 md_251 (i1 := 773) rfl ?_
      refine n_go (n_q md_251 rfl) (fun _ => rfl) ?_
      by_cases h10 : (lg_cmp ((s6 564 0).toInt64) v5.toInt64) = 0
      · rw [if_pos h10] at H
        refine n_ifT (n_q md_251 rfl) (decide_eq_true h10) ?_
        refine g_go 3 md_251 (i1 := 13) (ls1 := [some (.ref 1000000), some (.ref 0), some (.ref 199), some (.ref 564), some (.int (x4 + 7)), some (.int v2), some (.int v5)]) rfl ?_
        cases H
        exact K0 (x4 + 7, (s6, ex + k4)) rfl _ _
      · rw [if_neg h10] at H
        refine n_ifF (n_q md_251 rfl) (fun e1 => h10 (of_decide_eq_true e1)) ?_
        refine g_go 1 md_251 (i1 := 776) rfl ?_
        cases H
        rw [← Kr _ rfl]
        exact n_iret (n_q md_251 rfl) (Or.inr rfl)
    · rw [if_neg h9] at H
      refine n_ifT (n_q md_251 rfl) (decide_eq_true h9) ?_
      refine g_go 3 md_251 (i1 := 13) (ls1 := [some (.ref 1000000), some (.ref 0), some (.ref 199), some (.ref 564), some (.int (x4 + 7)), some (.int v2), some (.int v5)]) rfl ?_
      cases H
      exact K0 (x4 + 7, (s6, ex + k4)) rfl _ _
  · rw [if_neg h8] at H
    refine n_cmpF (n_q md_251 rfl) (fun e1 => h8 (of_decide_eq_true e1)) ?_
    refine g_go 1 md_251 (i1 := 765) rfl ?_
    cases H
    rw [← Kr _ rfl]
    exact n_iret (n_q md_251 rfl) (Or.inr rfl)
noncomputable def f251_778 (X : m_X) (s : g_S) (ex : Nat) (x4 : Int32) : Option ((Int32 × (g_S × Nat)) ⊕ (Int32 × (g_S × Nat))) := (if m_in (x4 + 1) X.1 = true then g_wd (f236 s (X.2 (x4 + 1).toNatClampNeg)) fun v2 k4 s3 => g_bd (f189 s3 (X.2 (x4 + 1).toNatClampNeg)) fun v5 s6 => (f133 s6).bind fun v7 => if v7 = v2 then (if v2 = 0 then (if (lg_cmp ((s6 564 0).toInt64) v5.toInt64) = 0 then (some (.inl (x4 + 7, (s6, ex + k4)))) else (some (.inr (0, (s6, ex + k4))))) else (some (.inl (x4 + 7, (s6, ex + k4))))) else (some (.inr (0, (s6, ex + k4)))) else none)
set_option maxHeartbeats 10000000 in
set_option maxRecDepth 100000 in
theorem P251_778 {d ex : Nat} {rr : m_R} {s : g_S} {x4 : Int32} {u5 u6 : Option Value} {z : (Int32 × (g_S × Nat)) ⊕ (Int32 × (g_S × Nat))} (H : f251_778 X s ex x4 = some z) (hd : 86 ≤ d) (K0 : ∀ S : Int32 × (g_S × Nat), z = .inl S → ∀ u5 u6 : Option Value, n_R X (d + 1) 251 13 [some (.ref 1000000), some (.ref 0), some (.ref 199), some (.ref 564), some (.int S.1), u5, u6] [] (g_M S.2.1 S.2.2) rr) (Kr : ∀ q, z = .inr q → g_rL q = rr) : n_R X (d + 1) 251 778 [some (.ref 1000000), some (.ref 0), some (.ref 199), some (.ref 564), some (.int x4), u5, u6] [] (g_M s ex) rr := by
  unfold f251_778 at H
  refine g_go 5 md_251 (i1 := 783) rfl ?_
  obtain ⟨h1, H⟩ := g_gd H
  refine n_scr (n_q md_251 rfl) h1 ?_
  refine g_go 1 md_251 (i1 := 785) rfl ?_
  obtain ⟨v2, k4, s3, hv2, H⟩ := g_wdp H
  refine n_callv (n_q md_251 rfl) (As := [.ref 0, .int (X.2 (x4 + 1).toNatClampNeg), .ref 564]) (rest := []) rfl rfl (Nat.le_of_ble_eq_true rfl) rfl rfl (C236 (by omega) hv2) ?_
  refine g_go 6 md_251 (i1 := 792) (ls1 := [some (.ref 1000000), some (.ref 0), some (.ref 199), some (.ref 564), some (.int x4), some (.int v2), u6]) rfl ?_
  refine n_scr (n_q md_251 rfl) h1 ?_
  obtain ⟨v5, s6, hv5, H⟩ := g_bdp H
  refine n_callv (n_q md_251 rfl) (As := [.ref 199, .int (X.2 (x4 + 1).toNatClampNeg)]) (rest := []) rfl rfl (Nat.le_of_ble_eq_true rfl) rfl (g_recv (b := 0) rfl t_199 rfl) (C189 (by omega) hv5) ?_
  refine g_go 2 md_251 (i1 := 796) (ls1 := [some (.ref 1000000), some (.ref 0), some (.ref 199), some (.ref 564), some (.int x4), some (.int v2), some (.int v5)]) rfl ?_
  obtain ⟨v7, hv7, H⟩ := g_bind H
  refine n_callv (n_q md_251 rfl) (As := [.ref 199]) (rest := []) rfl rfl (Nat.le_of_ble_eq_true rfl) rfl (g_recv (b := 0) rfl t_199 rfl) (C133 (by omega) hv7) ?_
  refine g_go 1 md_251 (i1 := 798) rfl ?_
  by_cases h8 : v7 = v2
  · rw [if_pos h8] at H
    refine n_cmpT (n_q md_251 rfl) (decide_eq_true h8) ?_
    refine g_go 1 md_251 (i1 := 802) rfl ?_
    by_cases h9 : v2 = 0
    · rw [if_pos h9] at H
      refine n_ifF (n_q md_251 rfl) (fun e1 => of_decide_eq_true e1 h9) ?_
      refine g_go 2 md_251 (i1 := 805) rfl ?_
      refine g_lald (n_q md_251 rfl) ?_
      refine g_go 2 md_251 (i1 := 808) rfl ?_
      refine n_go (n_q md_251 rfl) (fun _ => rfl) ?_
      by_cases h10 : (lg_cmp ((s6 564 0).toInt64) v5.toInt64) = 0
      · rw [if_pos h10] at H
        refine n_ifT (n_q md_251 rfl) (decide_eq_true h10) ?_
        refine g_go 3 md_251 (i1 := 13) (ls1 := [some (.ref 1000000), some (.ref 0), some (.ref 199), some (.ref 564), some (.int (x4 + 7)), some (.int v2), some (.int v5)]) rfl ?_
        cases H
        exact K0 (x4 + 7, (s6, ex + k4)) rfl _ _
      · rw [if_neg h10] at H
        refine n_ifF (n_q md_251 rfl) (fun e1 => h10 (of_decide_eq_true e1)) ?_
        refine g_go 1 md_251 (i1 := 811) rfl ?_
        cases H
        rw [← Kr _ rfl]
        exact n_iret (n_q md_251 rfl) (Or.inr rfl)
    · rw [if_neg h9] at H
      refine n_ifT (n_q md_251 rfl) (decide_eq_true h9) ?_
      refine g_go 3 md_251 (i1 := 13) (ls1 := [some (.ref 1000000), some (.ref 0), some (.ref 199), some (.ref 564), some (.int (x4 + 7)), some (.int v2), some (.int v5)]) rfl ?_
      cases H
      exact K0 (x4 + 7, (s6, ex + k4)) rfl _ _
  · rw [if_neg h8] at H
    refine n_cmpF (n_q md_251 rfl) (fun e1 => h8 (of_decide_eq_true e1)) ?_
    refine g_go 1 md_251 (i1 := 800) rfl ?_
    cases H
    rw [← Kr _ rfl]
    exact n_iret (n_q md_251 rfl) (Or.inr rfl)
noncomputable def f251_813 (X : m_X) (s : g_S) (ex : Nat) (x4 : Int32) : Option ((Int32 × (g_S × Nat)) ⊕ (Int32 × (g_S × Nat))) := (if m_in (x4 + 1) X.1 = true then g_wd (f237 s (X.2 (x4 + 1).toNatClampNeg)) fun v2 k4 s3 => g_bd (f190 s3 (X.2 (x4 + 1).toNatClampNeg)) fun v5 s6 => (f133 s6).bind fun v7 => if v7 = v2 then (if v2 = 0 then (if v5 = 0 then (if (lg_cmp ((s6 564 0).toInt64) (Int64.ofNat 0)) = 0 then (some (.inl (x4 + 7, (s6, ex + k4)))) else (some (.inr (0, (s6, ex + k4))))) else (if (lg_cmp ((s6 564 0).toInt64) (Int64.ofNat 1)) = 0 then (some (.inl (x4 + 7, (s6, ex + k4)))) else (some (.inr (0, (s6, ex + k4)))))) else (some (.inl (x4 + 7, (s6, ex + k4))))) else (some (.inr (0, (s6, ex + k4)))) else none)
set_option maxHeartbeats 10000000 in
set_option maxRecDepth 100000 in
theorem P251_813 {d ex : Nat} {rr : m_R} {s : g_S} {x4 : Int32} {u5 u6 : Option Value} {z : (Int32 × (g_S × Nat)) ⊕ (Int32 × (g_S × Nat))} (H : f251_813 X s ex x4 = some z) (hd : 86 ≤ d) (K0 : ∀ S : Int32 × (g_S × Nat), z = .inl S → ∀ u5 u6 : Option Value, n_R X (d + 1) 251 13 [some (.ref 1000000), some (.ref 0), some (.ref 199), some (.ref 564), some (.int S.1), u5, u6] [] (g_M S.2.1 S.2.2) rr) (Kr : ∀ q, z = .inr q → g_rL q = rr) : n_R X (d + 1) 251 813 [some (.ref 1000000), some (.ref 0), some (.ref 199), some (.ref 564), some (.int x4), u5, u6] [] (g_M s ex) rr := by
  unfold f251_813 at H
  refine g_go 5 md_251 (i1 := 818) rfl ?_
  obtain ⟨h1, H⟩ := g_gd H
  refine n_scr (n_q md_251 rfl) h1 ?_
  refine g_go 1 md_251 (i1 := 820) rfl ?_
  obtain ⟨v2, k4, s3, hv2, H⟩ := g_wdp H
  refine n_callv (n_q md_251 rfl) (As := [.ref 0, .int (X.2 (x4 + 1).toNatClampNeg), .ref 564]) (rest := []) rfl rfl (Nat.le_of_ble_eq_true rfl) rfl rfl (C237 (by omega) hv2) ?_
  refine g_go 6 md_251 (i1 := 827) (ls1 := [some (.ref 1000000), some (.ref 0), some (.ref 199), some (.ref 564), some (.int x4), some (.int v2), u6]) rfl ?_
  refine n_scr (n_q md_251 rfl) h1 ?_
  obtain ⟨v5, s6, hv5, H⟩ := g_bdp H
  refine n_callv (n_q md_251 rfl) (As := [.ref 199, .int (X.2 (x4 + 1).toNatClampNeg)]) (rest := []) rfl rfl (Nat.le_of_ble_eq_true rfl) rfl (g_recv (b := 0) rfl t_199 rfl) (C190 (by omega) hv5) ?_
  refine g_go 2 md_251 (i1 := 831) (ls1 := [some (.ref 1000000), some (.ref 0), some (.ref 199), some (.ref 564), some (.int x4), some (.int v2), some (.int v5)]) rfl ?_
  obtain ⟨v7, hv7, H⟩ := g_bind H
  refine n_callv (n_q md_251 rfl) (As := [.ref 199]) (rest := []) rfl rfl (Nat.le_of_ble_eq_true rfl) rfl (g_recv (b := 0) rfl t_199 rfl) (C133 (by omega) hv7) ?_
  refine g_go 1 md_251 (i1 := 833) rfl ?_
  by_cases h8 : v7 = v2
  · rw [if_pos h8] at H
    refine n_cmpT (n_q md_251 rfl) (decide_eq_true h8) ?_
    refine g_go 1 md_251 (i1 := 837) rfl ?_
    by_cases h9 : v2 = 0
    · rw [if_pos h9] at H
      refine n_ifF (n_q md_251 rfl) (fun e1 => of_decide_eq_true e1 h9) ?_
      refine g_go 2 md_251 (i1 := 840) rfl ?_
      refine g_lald (n_q md_251 rfl) ?_
      refine g_go 1 md_251 (i1 := 842) rfl ?_
      by_cases h10 : v5 = 0
      · rw [if_pos h10] at H
        refine n_ifT (n_q md_251 rfl) (decide_eq_true h10) ?_
        refine g_go 1 md_251 (i1 := 846) rfl ?_
        refine n_go (n_q md_251 rfl) (fun _ => rfl) ?_
        by_cases h11 : (lg_cmp ((s6 564 0).toInt64) (Int64.ofNat 0)) = 0
        · rw [if_pos h11] at H
          refine n_ifT (n_q md_251 rfl) (decide_eq_true h11) ?_
          refine g_go 3 md_251 (i1 := 13) (ls1 := [some (.ref 1000000), some (.ref 0), some (.ref 199), some (.ref 564), some (.int (x4 + 7)), some (.int v2), some (.int v5)]) rfl ?_
          cases H
          exact K0 (x4 + 7, (s6, ex + k4)) rfl _ _
        · rw [if_neg h11] at H
          refine n_ifF (n_q md_251 rfl) (fun e1 => h11 (of_decide_eq_true e1)) ?_
          refine g_go 1 md_251 (i1 := 849) rfl ?_
          cases H
          rw [← Kr _ rfl]
          exact n_iret (n_q md_251 rfl) (Or.inr rfl)
      · rw [if_neg h10] at H
        refine n_ifF (n_q md_251 rfl) (fun e1 => h10 (of_decide_eq_true e1)) ?_
        refine g_go 2 md_251 (i1 := 846) rfl ?_
        refine n_go (n_q md_251 rfl) (fun _ => rfl) ?_
        by_cases h11 : (lg_cmp ((s6 564 0).toInt64) (Int64.ofNat 1)) = 0
        · rw [if_pos h11] at H
          refine n_ifT (n_q md_251 rfl) (decide_eq_true h11) ?_
          refine g_go 3 md_251 (i1 := 13) (ls1 := [some (.ref 1000000), some (.ref 0), some (.ref 199), some (.ref 564), some (.int (x4 + 7)), some (.int v2), some (.int v5)]) rfl ?_
          cases H
          exact K0 (x4 + 7, (s6, ex + k4)) rfl _ _
        · rw [if_neg h11] at H
          refine n_ifF (n_q md_251 rfl) (fun e1 => h11 (of_decide_eq_true e1)) ?_
          refine g_go 1 md_251 (i1 := 849) rfl ?_
          cases H
          rw [← Kr _ rfl]
          exact n_iret (n_q md_251 rfl) (Or.inr rfl)
    · rw [if_neg h9] at H
      refine n_ifT (n_q md_251 rfl) (decide_eq_true h9) ?_
      refine g_go 3 md_251 (i1 := 13) (ls1 := [some (.ref 1000000), some (.ref 0), some (.ref 199), some (.ref 564), some (.int (x4 + 7)), some (.int v2), some (.int v5)]) rfl ?_
      cases H
      exact K0 (x4 + 7, (s6, ex + k4)) rfl _ _
  · rw [if_neg h8] at H
    refine n_cmpF (n_q md_251 rfl) (fun e1 => h8 (of_decide_eq_true e1)) ?_
    refine g_go 1 md_251 (i1 := 835) rfl ?_
    cases H
    rw [← Kr _ rfl]
    exact n_iret (n_q md_251 rfl) (Or.inr rfl)
noncomputable def f251_851 (X : m_X) (s : g_S) (ex : Nat) (x4 : Int32) : Option ((Int32 × (g_S × Nat)) ⊕ (Int32 × (g_S × Nat))) := (if m_in (x4 + 1) X.1 = true then g_wd (f238 s (X.2 (x4 + 1).toNatClampNeg)) fun v2 k4 s3 => g_bd (f191 s3 (X.2 (x4 + 1).toNatClampNeg)) fun v5 s6 => (f133 s6).bind fun v7 => if v7 = v2 then (if v2 = 0 then (if (lg_cmp ((s6 564 0).toInt64) v5.toInt64) = 0 then (some (.inl (x4 + 7, (s6, ex + k4)))) else (some (.inr (0, (s6, ex + k4))))) else (some (.inl (x4 + 7, (s6, ex + k4))))) else (some (.inr (0, (s6, ex + k4)))) else none)
set_option maxHeartbeats 10000000 in
set_option maxRecDepth 100000 in
theorem P251_851 {d ex : Nat} {rr : m_R} {s : g_S} {x4 : Int32} {u5 u6 : Option Value} {z : (Int32 × (g_S × Nat)) ⊕ (Int32 × (g_S × Nat))} (H : f251_851 X s ex x4 = some z) (hd : 86 ≤ d) (K0 : ∀ S : Int32 × (g_S × Nat), z = .inl S → ∀ u5 u6 : Option Value, n_R X (d + 1) 251 13 [some (.ref 1000000), some (.ref 0), some (.ref 199), some (.ref 564), some (.int S.1), u5, u6] [] (g_M S.2.1 S.2.2) rr) (Kr : ∀ q, z = .inr q → g_rL q = rr) : n_R X (d + 1) 251 851 [some (.ref 1000000), some (.ref 0), some (.ref 199), some (.ref 564), some (.int x4), u5, u6] [] (g_M s ex) rr := by
  unfold f251_851 at H
  refine g_go 5 md_251 (i1 := 856) rfl ?_
  obtain ⟨h1, H⟩ := g_gd H
  refine n_scr (n_q md_251 rfl) h1 ?_
  refine g_go 1 md_251 (i1 := 858) rfl ?_
  obtain ⟨v2, k4, s3, hv2, H⟩ := g_wdp H
  refine n_callv (n_q md_251 rfl) (As := [.ref 0, .int (X.2 (x4 + 1).toNatClampNeg), .ref 564]) (rest := []) rfl rfl (Nat.le_of_ble_eq_true rfl) rfl rfl (C238 (by omega) hv2) ?_
  refine g_go 6 md_251 (i1 := 865) (ls1 := [some (.ref 1000000), some (.ref 0), some (.ref 199), some (.ref 564), some (.int x4), some (.int v2), u6]) rfl ?_
  refine n_scr (n_q md_251 rfl) h1 ?_
  obtain ⟨v5, s6, hv5, H⟩ := g_bdp H
  refine n_callv (n_q md_251 rfl) (As := [.ref 199, .int (X.2 (x4 + 1).toNatClampNeg)]) (rest := []) rfl rfl (Nat.le_of_ble_eq_true rfl) rfl (g_recv (b := 0) rfl t_199 rfl) (C191 (by omega) hv5) ?_
  refine g_go 2 md_251 (i1 := 869) (ls1 := [some (.ref 1000000), some (.ref 0), some (.ref 199), some (.ref 564), some (.int x4), some (.int v2), some (.int v5)]) rfl ?_
  obtain ⟨v7, hv7, H⟩ := g_bind H
  refine n_callv (n_q md_251 rfl) (As := [.ref 199]) (rest := []) rfl rfl (Nat.le_of_ble_eq_true rfl) rfl (g_recv (b := 0) rfl t_199 rfl) (C133 (by omega) hv7) ?_
  refine g_go 1 md_251 (i1 := 871) rfl ?_
  by_cases h8 : v7 = v2
  · rw [if_pos h8] at H
    refine n_cmpT (n_q md_251 rfl) (decide_eq_true h8) ?_
    refine g_go 1 md_251 (i1 := 875) rfl ?_
    by_cases h9 : v2 = 0
    · rw [if_pos h9] at H
      refine n_ifF (n_q md_251 rfl) (fun e1 => of_decide_eq_true e1 h9) ?_
      refine g_go 2 md_251 (i1 := 878) rfl ?_
      refine g_lald (n_q md_251 rfl) ?_
      refine g_go 2 md_251 (i1 := 881) rfl ?_
      refine n_go (n_q md_251 rfl) (fun _ => rfl) ?_
      by_cases h10 : (lg_cmp ((s6 564 0).toInt64) v5.toInt64) = 0
      · rw [if_pos h10] at H
        refine n_ifT (n_q md_251 rfl) (decide_eq_true h10) ?_
        refine g_go 3 md_251 (i1 := 13) (ls1 := [some (.ref 1000000), some (.ref 0), some (.ref 199), some (.ref 564), some (.int (x4 + 7)), some (.int v2), some (.int v5)]) rfl ?_
        cases H
        exact K0 (x4 + 7, (s6, ex + k4)) rfl _ _
      · rw [if_neg h10] at H
        refine n_ifF (n_q md_251 rfl) (fun e1 => h10 (of_decide_eq_true e1)) ?_
        refine g_go 1 md_251 (i1 := 884) rfl ?_
        cases H
        rw [← Kr _ rfl]
        exact n_iret (n_q md_251 rfl) (Or.inr rfl)
    · rw [if_neg h9] at H
      refine n_ifT (n_q md_251 rfl) (decide_eq_true h9) ?_
      refine g_go 3 md_251 (i1 := 13) (ls1 := [some (.ref 1000000), some (.ref 0), some (.ref 199), some (.ref 564), some (.int (x4 + 7)), some (.int v2), some (.int v5)]) rfl ?_
      cases H
      exact K0 (x4 + 7, (s6, ex + k4)) rfl _ _
  · rw [if_neg h8] at H
    refine n_cmpF (n_q md_251 rfl) (fun e1 => h8 (of_decide_eq_true e1)) ?_
    refine g_go 1 md_251 (i1 := 873) rfl ?_
    cases H
    rw [← Kr _ rfl]
    exact n_iret (n_q md_251 rfl) (Or.inr rfl)
noncomputable def f251_886 (X : m_X) (s : g_S) (ex : Nat) (x4 : Int32) : Option ((Int32 × (g_S × Nat)) ⊕ (Int32 × (g_S × Nat))) := (if m_in (x4 + 1) X.1 = true then if m_in (x4 + 2) X.1 = true then if m_in (x4 + 3) X.1 = true then g_wd (f239 s (X.2 (x4 + 1).toNatClampNeg) (X.2 (x4 + 2).toNatClampNeg) (X.2 (x4 + 3).toNatClampNeg)) fun v4 k6 s5 => g_bd (f192 s5 (X.2 (x4 + 1).toNatClampNeg) (X.2 (x4 + 2).toNatClampNeg) (X.2 (x4 + 3).toNatClampNeg)) fun v7 s8 => (f133 s8).bind fun v9 => if v9 = v4 then (if v4 = 0 then (if (lg_cmp ((s8 564 0).toInt64) v7.toInt64) = 0 then (some (.inl (x4 + 7, (s8, ex + k6)))) else (some (.inr (0, (s8, ex + k6))))) else (some (.inl (x4 + 7, (s8, ex + k6))))) else (some (.inr (0, (s8, ex + k6)))) else none else none else none)
set_option maxHeartbeats 10000000 in
set_option maxRecDepth 100000 in
theorem P251_886 {d ex : Nat} {rr : m_R} {s : g_S} {x4 : Int32} {u5 u6 : Option Value} {z : (Int32 × (g_S × Nat)) ⊕ (Int32 × (g_S × Nat))} (H : f251_886 X s ex x4 = some z) (hd : 86 ≤ d) (K0 : ∀ S : Int32 × (g_S × Nat), z = .inl S → ∀ u5 u6 : Option Value, n_R X (d + 1) 251 13 [some (.ref 1000000), some (.ref 0), some (.ref 199), some (.ref 564), some (.int S.1), u5, u6] [] (g_M S.2.1 S.2.2) rr) (Kr : ∀ q, z = .inr q → g_rL q = rr) : n_R X (d + 1) 251 886 [some (.ref 1000000), some (.ref 0), some (.ref 199), some (.ref 564), some (.int x4), u5, u6] [] (g_M s ex) rr := by
  unfold f251_886 at H
  refine g_go 5 md_251 (i1 := 891) rfl ?_
  obtain ⟨h1, H⟩ := g_gd H
  refine n_scr (n_q md_251 rfl) h1 ?_
  refine g_go 4 md_251 (i1 := 896) rfl ?_
  obtain ⟨h2, H⟩ := g_gd H
  refine n_scr (n_q md_251 rfl) h2 ?_
  refine g_go 4 md_251 (i1 := 901) rfl ?_
  obtain ⟨h3, H⟩ := g_gd H
  refine n_scr (n_q md_251 rfl) h3 ?_
  refine g_go 1 md_251 (i1 := 903) rfl ?_
  obtain ⟨v4, k6, s5, hv4, H⟩ := g_wdp H
  refine n_callv (n_q md_251 rfl) (As := [.ref 0, .int (X.2 (x4 + 1).toNatClampNeg), .int (X.2 (x4 + 2).toNatClampNeg), .int (X.2 (x4 + 3).toNatClampNeg), .ref 564]) (rest := []) rfl rfl (Nat.le_of_ble_eq_true rfl) rfl rfl (C239 (by omega) hv4) ?_
  refine g_go 6 md_251 (i1 := 910) (ls1 := [some (.ref 1000000), some (.ref 0), some (.ref 199), some (.ref 564), some (.int x4), some (.int v4), u6]) rfl ?_
  refine n_scr (n_q md_251 rfl) h1 ?_
  refine g_go 4 md_251 (i1 := 915) rfl ?_
  refine n_scr (n_q md_251 rfl) h2 ?_
  refine g_go 4 md_251 (i1 := 920) rfl ?_
  refine n_scr (n_q md_251 rfl) h3 ?_
  obtain ⟨v7, s8, hv7, H⟩ := g_bdp H
  refine n_callv (n_q md_251 rfl) (As := [.ref 199, .int (X.2 (x4 + 1).toNatClampNeg), .int (X.2 (x4 + 2).toNatClampNeg), .int (X.2 (x4 + 3).toNatClampNeg)]) (rest := []) rfl rfl (Nat.le_of_ble_eq_true rfl) rfl (g_recv (b := 0) rfl t_199 rfl) (C192 (by omega) hv7) ?_
  refine g_go 2 md_251 (i1 := 924) (ls1 := [some (.ref 1000000), some (.ref 0), some (.ref 199), some (.ref 564), some (.int x4), some (.int v4), some (.int v7)]) rfl ?_
  obtain ⟨v9, hv9, H⟩ := g_bind H
  refine n_callv (n_q md_251 rfl) (As := [.ref 199]) (rest := []) rfl rfl (Nat.le_of_ble_eq_true rfl) rfl (g_recv (b := 0) rfl t_199 rfl) (C133 (by omega) hv9) ?_
  refine g_go 1 md_251 (i1 := 926) rfl ?_
  by_cases h10 : v9 = v4
  · rw [if_pos h10] at H
    refine n_cmpT (n_q md_251 rfl) (decide_eq_true h10) ?_
    refine g_go 1 md_251 (i1 := 930) rfl ?_
    by_cases h11 : v4 = 0
    · rw [if_pos h11] at H
      refine n_ifF (n_q md_251 rfl) (fun e1 => of_decide_eq_true e1 h11) ?_
      refine g_go 2 md_251 (i1 := 933) rfl ?_
      refine g_lald (n_q md_251 rfl) ?_
      refine g_go 2 md_251 (i1 := 936) rfl ?_
      refine n_go (n_q md_251 rfl) (fun _ => rfl) ?_
      by_cases h12 : (lg_cmp ((s8 564 0).toInt64) v7.toInt64) = 0
      · rw [if_pos h12] at H
        refine n_ifT (n_q md_251 rfl) (decide_eq_true h12) ?_
        refine g_go 3 md_251 (i1 := 13) (ls1 := [some (.ref 1000000), some (.ref 0), some (.ref 199), some (.ref 564), some (.int (x4 + 7)), some (.int v4), some (.int v7)]) rfl ?_
        cases H
        exact K0 (x4 + 7, (s8, ex + k6)) rfl _ _
      · rw [if_neg h12] at H
        refine n_ifF (n_q md_251 rfl) (fun e1 => h12 (of_decide_eq_true e1)) ?_
        refine g_go 1 md_251 (i1 := 939) rfl ?_
        cases H
        rw [← Kr _ rfl]
        exact n_iret (n_q md_251 rfl) (Or.inr rfl)
    · rw [if_neg h11] at H
      refine n_ifT (n_q md_251 rfl) (decide_eq_true h11) ?_
      refine g_go 3 md_251 (i1 := 13) (ls1 := [some (.ref 1000000), some (.ref 0), some (.ref 199), some (.ref 564), some (.int (x4 + 7)), some (.int v4), some (.int v7)]) rfl ?_
      cases H
      exact K0 (x4 + 7, (s8, ex + k6)) rfl _ _
  · rw [if_neg h10] at H
    refine n_cmpF (n_q md_251 rfl) (fun e1 => h10 (of_decide_eq_true e1)) ?_
    refine g_go 1 md_251 (i1 := 928) rfl ?_
    cases H
    rw [← Kr _ rfl]
    exact n_iret (n_q md_251 rfl) (Or.inr rfl)
noncomputable def f251_941 (X : m_X) (s : g_S) (ex : Nat) (x4 : Int32) : Option ((Int32 × (g_S × Nat)) ⊕ (Int32 × (g_S × Nat))) := (if m_in (x4 + 1) X.1 = true then if m_in (x4 + 2) X.1 = true then g_wd (f240 s (X.2 (x4 + 1).toNatClampNeg) (X.2 (x4 + 2).toNatClampNeg)) fun v3 k5 s4 => g_bd (f197 s4 (X.2 (x4 + 1).toNatClampNeg) (X.2 (x4 + 2).toNatClampNeg)) fun v6 s7 => (f133 s7).bind fun v8 => if v8 = v3 then (if v3 = 0 then (if (lg_cmp ((s7 564 0).toInt64) v6.toInt64) = 0 then (some (.inl (x4 + 7, (s7, ex + k5)))) else (some (.inr (0, (s7, ex + k5))))) else (some (.inl (x4 + 7, (s7, ex + k5))))) else (some (.inr (0, (s7, ex + k5)))) else none else none)
set_option maxHeartbeats 10000000 in
set_option maxRecDepth 100000 in
theorem P251_941 {d ex : Nat} {rr : m_R} {s : g_S} {x4 : Int32} {u5 u6 : Option Value} {z : (Int32 × (g_S × Nat)) ⊕ (Int32 × (g_S × Nat))} (H : f251_941 X s ex x4 = some z) (hd : 86 ≤ d) (K0 : ∀ S : Int32 × (g_S × Nat), z = .inl S → ∀ u5 u6 : Option Value, n_R X (d + 1) 251 13 [some (.ref 1000000), some (.ref 0), some (.ref 199), some (.ref 564), some (.int S.1), u5, u6] [] (g_M S.2.1 S.2.2) rr) (Kr : ∀ q, z = .inr q → g_rL q = rr) : n_R X (d + 1) 251 941 [some (.ref 1000000), some (.ref 0), some (.ref 199), some (.ref 564), some (.int x4), u5, u6] [] (g_M s ex) rr := by
  unfold f251_941 at H
  refine g_go 5 md_251 (i1 := 946) rfl ?_
  obtain ⟨h1, H⟩ := g_gd H
  refine n_scr (n_q md_251 rfl) h1 ?_
  refine g_go 4 md_251 (i1 := 951) rfl ?_
  obtain ⟨h2, H⟩ := g_gd H
  refine n_scr (n_q md_251 rfl) h2 ?_
  refine g_go 1 md_251 (i1 := 953) rfl ?_
  obtain ⟨v3, k5, s4, hv3, H⟩ := g_wdp H
  refine n_callv (n_q md_251 rfl) (As := [.ref 0, .int (X.2 (x4 + 1).toNatClampNeg), .int (X.2 (x4 + 2).toNatClampNeg), .ref 564]) (rest := []) rfl rfl (Nat.le_of_ble_eq_true rfl) rfl rfl (C240 (by omega) hv3) ?_
  refine g_go 6 md_251 (i1 := 960) (ls1 := [some (.ref 1000000), some (.ref 0), some (.ref 199), some (.ref 564), some (.int x4), some (.int v3), u6]) rfl ?_
  refine n_scr (n_q md_251 rfl) h1 ?_
  refine g_go 4 md_251 (i1 := 965) rfl ?_
  refine n_scr (n_q md_251 rfl) h2 ?_
  obtain ⟨v6, s7, hv6, H⟩ := g_bdp H
  refine n_callv (n_q md_251 rfl) (As := [.ref 199, .int (X.2 (x4 + 1).toNatClampNeg), .int (X.2 (x4 + 2).toNatClampNeg)]) (rest := []) rfl rfl (Nat.le_of_ble_eq_true rfl) rfl (g_recv (b := 0) rfl t_199 rfl) (C197 (by omega) hv6) ?_
  refine g_go 2 md_251 (i1 := 969) (ls1 := [some (.ref 1000000), some (.ref 0), some (.ref 199), some (.ref 564), some (.int x4), some (.int v3), some (.int v6)]) rfl ?_
  obtain ⟨v8, hv8, H⟩ := g_bind H
  refine n_callv (n_q md_251 rfl) (As := [.ref 199]) (rest := []) rfl rfl (Nat.le_of_ble_eq_true rfl) rfl (g_recv (b := 0) rfl t_199 rfl) (C133 (by omega) hv8) ?_
  refine g_go 1 md_251 (i1 := 971) rfl ?_
  by_cases h9 : v8 = v3
  · rw [if_pos h9] at H
    refine n_cmpT (n_q md_251 rfl) (decide_eq_true h9) ?_
    refine g_go 1 md_251 (i1 := 975) rfl ?_
    by_cases h10 : v3 = 0
    · rw [if_pos h10] at H
      refine n_ifF (n_q md_251 rfl) (fun e1 => of_decide_eq_true e1 h10) ?_
      refine g_go 2 md_251 (i1 := 978) rfl ?_
      refine g_lald (n_q md_251 rfl) ?_
      refine g_go 2 md_251 (i1 := 981) rfl ?_
      refine n_go (n_q md_251 rfl) (fun _ => rfl) ?_
      by_cases h11 : (lg_cmp ((s7 564 0).toInt64) v6.toInt64) = 0
      · rw [if_pos h11] at H
        refine n_ifT (n_q md_251 rfl) (decide_eq_true h11) ?_
        refine g_go 3 md_251 (i1 := 13) (ls1 := [some (.ref 1000000), some (.ref 0), some (.ref 199), some (.ref 564), some (.int (x4 + 7)), some (.int v3), some (.int v6)]) rfl ?_
        cases H
        exact K0 (x4 + 7, (s7, ex + k5)) rfl _ _
      · rw [if_neg h11] at H
        refine n_ifF (n_q md_251 rfl) (fun e1 => h11 (of_decide_eq_true e1)) ?_
        refine g_go 1 md_251 (i1 := 984) rfl ?_
        cases H
        rw [← Kr _ rfl]
        exact n_iret (n_q md_251 rfl) (Or.inr rfl)
    · rw [if_neg h10] at H
      refine n_ifT (n_q md_251 rfl) (decide_eq_true h10) ?_
      refine g_go 3 md_251 (i1 := 13) (ls1 := [some (.ref 1000000), some (.ref 0), some (.ref 199), some (.ref 564), some (.int (x4 + 7)), some (.int v3), some (.int v6)]) rfl ?_
      cases H
      exact K0 (x4 + 7, (s7, ex + k5)) rfl _ _
  · rw [if_neg h9] at H
    refine n_cmpF (n_q md_251 rfl) (fun e1 => h9 (of_decide_eq_true e1)) ?_
    refine g_go 1 md_251 (i1 := 973) rfl ?_
    cases H
    rw [← Kr _ rfl]
    exact n_iret (n_q md_251 rfl) (Or.inr rfl)
noncomputable def f251_986 (X : m_X) (s : g_S) (ex : Nat) (x4 : Int32) : Option ((Int32 × (g_S × Nat)) ⊕ (Int32 × (g_S × Nat))) := (if m_in (x4 + 1) X.1 = true then g_wd (f241 s (X.2 (x4 + 1).toNatClampNeg)) fun v2 k4 s3 => g_bd (f199 s3 (X.2 (x4 + 1).toNatClampNeg)) fun v5 s6 => (f133 s6).bind fun v7 => if v7 = v2 then (if v2 = 0 then (if (lg_cmp ((s6 564 0).toInt64) v5.toInt64) = 0 then (some (.inl (x4 + 7, (s6, ex + k4)))) else (some (.inr (0, (s6, ex + k4))))) else (some (.inl (x4 + 7, (s6, ex + k4))))) else (some (.inr (0, (s6, ex + k4)))) else none)
set_option maxHeartbeats 10000000 in
set_option maxRecDepth 100000 in
theorem P251_986 {d ex : Nat} {rr : m_R} {s : g_S} {x4 : Int32} {u5 u6 : Option Value} {z : (Int32 × (g_S × Nat)) ⊕ (Int32 × (g_S × Nat))} (H : f251_986 X s ex x4 = some z) (hd : 86 ≤ d) (K0 : ∀ S : Int32 × (g_S × Nat), z = .inl S → ∀ u5 u6 : Option Value, n_R X (d + 1) 251 13 [some (.ref 1000000), some (.ref 0), some (.ref 199), some (.ref 564), some (.int S.1), u5, u6] [] (g_M S.2.1 S.2.2) rr) (Kr : ∀ q, z = .inr q → g_rL q = rr) : n_R X (d + 1) 251 986 [some (.ref 1000000), some (.ref 0), some (.ref 199), some (.ref 564), some (.int x4), u5, u6] [] (g_M s ex) rr := by
  unfold f251_986 at H
  refine g_go 5 md_251 (i1 := 991) rfl ?_
  obtain ⟨h1, H⟩ := g_gd H
  refine n_scr (n_q md_251 rfl) h1 ?_
  refine g_go 1 md_251 (i1 := 993) rfl ?_
  obtain ⟨v2, k4, s3, hv2, H⟩ := g_wdp H
  refine n_callv (n_q md_251 rfl) (As := [.ref 0, .int (X.2 (x4 + 1).toNatClampNeg), .ref 564]) (rest := []) rfl rfl (Nat.le_of_ble_eq_true rfl) rfl rfl (C241 (by omega) hv2) ?_
  refine g_go 6 md_251 (i1 := 1000) (ls1 := [some (.ref 1000000), some (.ref 0), some (.ref 199), some (.ref 564), some (.int x4), some (.int v2), u6]) rfl ?_
  refine n_scr (n_q md_251 rfl) h1 ?_
  obtain ⟨v5, s6, hv5, H⟩ := g_bdp H
  refine n_callv (n_q md_251 rfl) (As := [.ref 199, .int (X.2 (x4 + 1).toNatClampNeg)]) (rest := []) rfl rfl (Nat.le_of_ble_eq_true rfl) rfl (g_recv (b := 0) rfl t_199 rfl) (C199 (by omega) hv5) ?_
  refine g_go 2 md_251 (i1 := 1004) (ls1 := [some (.ref 1000000), some (.ref 0), some (.ref 199), some (.ref 564), some (.int x4), some (.int v2), some (.int v5)]) rfl ?_
  obtain ⟨v7, hv7, H⟩ := g_bind H
  refine n_callv (n_q md_251 rfl) (As := [.ref 199]) (rest := []) rfl rfl (Nat.le_of_ble_eq_true rfl) rfl (g_recv (b := 0) rfl t_199 rfl) (C133 (by omega) hv7) ?_
  refine g_go 1 md_251 (i1 := 1006) rfl ?_
  by_cases h8 : v7 = v2
  · rw [if_pos h8] at H
    refine n_cmpT (n_q md_251 rfl) (decide_eq_true h8) ?_
    refine g_go 1 md_251 (i1 := 1010) rfl ?_
    by_cases h9 : v2 = 0
    · rw [if_pos h9] at H
      refine n_ifF (n_q md_251 rfl) (fun e1 => of_decide_eq_true e1 h9) ?_
      refine g_go 2 md_251 (i1 := 1013) rfl ?_
      refine g_lald (n_q md_251 rfl) ?_
      refine g_go 2 md_251 (i1 := 1016) rfl ?_
      refine n_go (n_q md_251 rfl) (fun _ => rfl) ?_
      by_cases h10 : (lg_cmp ((s6 564 0).toInt64) v5.toInt64) = 0
      · rw [if_pos h10] at H
        refine n_ifT (n_q md_251 rfl) (decide_eq_true h10) ?_
        refine g_go 3 md_251 (i1 := 13) (ls1 := [some (.ref 1000000), some (.ref 0), some (.ref 199), some (.ref 564), some (.int (x4 + 7)), some (.int v2), some (.int v5)]) rfl ?_
        cases H
        exact K0 (x4 + 7, (s6, ex + k4)) rfl _ _
      · rw [if_neg h10] at H
        refine n_ifF (n_q md_251 rfl) (fun e1 => h10 (of_decide_eq_true e1)) ?_
        refine g_go 1 md_251 (i1 := 1019) rfl ?_
        cases H
        rw [← Kr _ rfl]
        exact n_iret (n_q md_251 rfl) (Or.inr rfl)
    · rw [if_neg h9] at H
      refine n_ifT (n_q md_251 rfl) (decide_eq_true h9) ?_
      refine g_go 3 md_251 (i1 := 13) (ls1 := [some (.ref 1000000), some (.ref 0), some (.ref 199), some (.ref 564), some (.int (x4 + 7)), some (.int v2), some (.int v5)]) rfl ?_
      cases H
      exact K0 (x4 + 7, (s6, ex + k4)) rfl _ _
  · rw [if_neg h8] at H
    refine n_cmpF (n_q md_251 rfl) (fun e1 => h8 (of_decide_eq_true e1)) ?_
    refine g_go 1 md_251 (i1 := 1008) rfl ?_
    cases H
    rw [← Kr _ rfl]
    exact n_iret (n_q md_251 rfl) (Or.inr rfl)
noncomputable def f251_1021 (X : m_X) (s : g_S) (ex : Nat) (x4 : Int32) : Option ((Int32 × (g_S × Nat)) ⊕ (Int32 × (g_S × Nat))) := (if m_in (x4 + 1) X.1 = true then g_wd (f242 s (X.2 (x4 + 1).toNatClampNeg)) fun v2 k4 s3 => g_bd (f200 s3 (X.2 (x4 + 1).toNatClampNeg)) fun v5 s6 => (f133 s6).bind fun v7 => if v7 = v2 then (if v2 = 0 then (if (lg_cmp ((s6 564 0).toInt64) v5.toInt64) = 0 then (some (.inl (x4 + 7, (s6, ex + k4)))) else (some (.inr (0, (s6, ex + k4))))) else (some (.inl (x4 + 7, (s6, ex + k4))))) else (some (.inr (0, (s6, ex + k4)))) else none)
set_option maxHeartbeats 10000000 in
set_option maxRecDepth 100000 in
theorem P251_1021 {d ex : Nat} {rr : m_R} {s : g_S} {x4 : Int32} {u5 u6 : Option Value} {z : (Int32 × (g_S × Nat)) ⊕ (Int32 × (g_S × Nat))} (H : f251_1021 X s ex x4 = some z) (hd : 86 ≤ d) (K0 : ∀ S : Int32 × (g_S × Nat), z = .inl S → ∀ u5 u6 : Option Value, n_R X (d + 1) 251 13 [some (.ref 1000000), some (.ref 0), some (.ref 199), some (.ref 564), some (.int S.1), u5, u6] [] (g_M S.2.1 S.2.2) rr) (Kr : ∀ q, z = .inr q → g_rL q = rr) : n_R X (d + 1) 251 1021 [some (.ref 1000000), some (.ref 0), some (.ref 199), some (.ref 564), some (.int x4), u5, u6] [] (g_M s ex) rr := by
  unfold f251_1021 at H
  refine g_go 5 md_251 (i1 := 1026) rfl ?_
  obtain ⟨h1, H⟩ := g_gd H
  refine n_scr (n_q md_251 rfl) h1 ?_
  refine g_go 1 md_251 (i1 := 1028) rfl ?_
  obtain ⟨v2, k4, s3, hv2, H⟩ := g_wdp H
  refine n_callv (n_q md_251 rfl) (As := [.ref 0, .int (X.2 (x4 + 1).toNatClampNeg), .ref 564]) (rest := []) rfl rfl (Nat.le_of_ble_eq_true rfl) rfl rfl (C242 (by omega) hv2) ?_
  refine g_go 6 md_251 (i1 := 1035) (ls1 := [some (.ref 1000000), some (.ref 0), some (.ref 199), some (.ref 564), some (.int x4), some (.int v2), u6]) rfl ?_
  refine n_scr (n_q md_251 rfl) h1 ?_
  obtain ⟨v5, s6, hv5, H⟩ := g_bdp H
  refine n_callv (n_q md_251 rfl) (As := [.ref 199, .int (X.2 (x4 + 1).toNatClampNeg)]) (rest := []) rfl rfl (Nat.le_of_ble_eq_true rfl) rfl (g_recv (b := 0) rfl t_199 rfl) (C200 (by omega) hv5) ?_
  refine g_go 2 md_251 (i1 := 1039) (ls1 := [some (.ref 1000000), some (.ref 0), some (.ref 199), some (.ref 564), some (.int x4), some (.int v2), some (.int v5)]) rfl ?_
  obtain ⟨v7, hv7, H⟩ := g_bind H
  refine n_callv (n_q md_251 rfl) (As := [.ref 199]) (rest := []) rfl rfl (Nat.le_of_ble_eq_true rfl) rfl (g_recv (b := 0) rfl t_199 rfl) (C133 (by omega) hv7) ?_
  refine g_go 1 md_251 (i1 := 1041) rfl ?_
  by_cases h8 : v7 = v2
  · rw [if_pos h8] at H
    refine n_cmpT (n_q md_251 rfl) (decide_eq_true h8) ?_
    refine g_go 1 md_251 (i1 := 1045) rfl ?_
    by_cases h9 : v2 = 0
    · rw [if_pos h9] at H
      refine n_ifF (n_q md_251 rfl) (fun e1 => of_decide_eq_true e1 h9) ?_
      refine g_go 2 md_251 (i1 := 1048) rfl ?_
      refine g_lald (n_q md_251 rfl) ?_
      refine g_go 2 md_251 (i1 := 1051) rfl ?_
      refine n_go (n_q md_251 rfl) (fun _ => rfl) ?_
      by_cases h10 : (lg_cmp ((s6 564 0).toInt64) v5.toInt64) = 0
      · rw [if_pos h10] at H
        refine n_ifT (n_q md_251 rfl) (decide_eq_true h10) ?_
        refine g_go 3 md_251 (i1 := 13) (ls1 := [some (.ref 1000000), some (.ref 0), some (.ref 199), some (.ref 564), some (.int (x4 + 7)), some (.int v2), some (.int v5)]) rfl ?_
        cases H
        exact K0 (x4 + 7, (s6, ex + k4)) rfl _ _
      · rw [if_neg h10] at H
        refine n_ifF (n_q md_251 rfl) (fun e1 => h10 (of_decide_eq_true e1)) ?_
        refine g_go 1 md_251 (i1 := 1054) rfl ?_
        cases H
        rw [← Kr _ rfl]
        exact n_iret (n_q md_251 rfl) (Or.inr rfl)
    · rw [if_neg h9] at H
      refine n_ifT (n_q md_251 rfl) (decide_eq_true h9) ?_
      refine g_go 3 md_251 (i1 := 13) (ls1 := [some (.ref 1000000), some (.ref 0), some (.ref 199), some (.ref 564), some (.int (x4 + 7)), some (.int v2), some (.int v5)]) rfl ?_
      cases H
      exact K0 (x4 + 7, (s6, ex + k4)) rfl _ _
  · rw [if_neg h8] at H
    refine n_cmpF (n_q md_251 rfl) (fun e1 => h8 (of_decide_eq_true e1)) ?_
    refine g_go 1 md_251 (i1 := 1043) rfl ?_
    cases H
    rw [← Kr _ rfl]
    exact n_iret (n_q md_251 rfl) (Or.inr rfl)
noncomputable def f251_1056 (X : m_X) (s : g_S) (ex : Nat) (x4 : Int32) : Option ((Int32 × (g_S × Nat)) ⊕ (Int32 × (g_S × Nat))) := (if m_in (x4 + 1) X.1 = true then g_wd (f243 s (X.2 (x4 + 1).toNatClampNeg)) fun v2 k4 s3 => g_bd (f201 s3 (X.2 (x4 + 1).toNatClampNeg)) fun v5 s6 => (f133 s6).bind fun v7 => if v7 = v2 then (if v2 = 0 then (if (lg_cmp ((s6 564 0).toInt64) v5.toInt64) = 0 then (some (.inl (x4 + 7, (s6, ex + k4)))) else (some (.inr (0, (s6, ex + k4))))) else (some (.inl (x4 + 7, (s6, ex + k4))))) else (some (.inr (0, (s6, ex + k4)))) else none)
set_option maxHeartbeats 10000000 in
set_option maxRecDepth 100000 in
theorem P251_1056 {d ex : Nat} {rr : m_R} {s : g_S} {x4 : Int32} {u5 u6 : Option Value} {z : (Int32 × (g_S × Nat)) ⊕ (Int32 × (g_S × Nat))} (H : f251_1056 X s ex x4 = some z) (hd : 86 ≤ d) (K0 : ∀ S : Int32 × (g_S × Nat), z = .inl S → ∀ u5 u6 : Option Value, n_R X (d + 1) 251 13 [some (.ref 1000000), some (.ref 0), some (.ref 199), some (.ref 564), some (.int S.1), u5, u6] [] (g_M S.2.1 S.2.2) rr) (Kr : ∀ q, z = .inr q → g_rL q = rr) : n_R X (d + 1) 251 1056 [some (.ref 1000000), some (.ref 0), some (.ref 199), some (.ref 564), some (.int x4), u5, u6] [] (g_M s ex) rr := by
  unfold f251_1056 at H
  refine g_go 5 md_251 (i1 := 1061) rfl ?_
  obtain ⟨h1, H⟩ := g_gd H
  refine n_scr (n_q md_251 rfl) h1 ?_
  refine g_go 1 md_251 (i1 := 1063) rfl ?_
  obtain ⟨v2, k4, s3, hv2, H⟩ := g_wdp H
  refine n_callv (n_q md_251 rfl) (As := [.ref 0, .int (X.2 (x4 + 1).toNatClampNeg), .ref 564]) (rest := []) rfl rfl (Nat.le_of_ble_eq_true rfl) rfl rfl (C243 (by omega) hv2) ?_
  refine g_go 6 md_251 (i1 := 1070) (ls1 := [some (.ref 1000000), some (.ref 0), some (.ref 199), some (.ref 564), some (.int x4), some (.int v2), u6]) rfl ?_
  refine n_scr (n_q md_251 rfl) h1 ?_
  obtain ⟨v5, s6, hv5, H⟩ := g_bdp H
  refine n_callv (n_q md_251 rfl) (As := [.ref 199, .int (X.2 (x4 + 1).toNatClampNeg)]) (rest := []) rfl rfl (Nat.le_of_ble_eq_true rfl) rfl (g_recv (b := 0) rfl t_199 rfl) (C201 (by omega) hv5) ?_
  refine g_go 2 md_251 (i1 := 1074) (ls1 := [some (.ref 1000000), some (.ref 0), some (.ref 199), some (.ref 564), some (.int x4), some (.int v2), some (.int v5)]) rfl ?_
  obtain ⟨v7, hv7, H⟩ := g_bind H
  refine n_callv (n_q md_251 rfl) (As := [.ref 199]) (rest := []) rfl rfl (Nat.le_of_ble_eq_true rfl) rfl (g_recv (b := 0) rfl t_199 rfl) (C133 (by omega) hv7) ?_
  refine g_go 1 md_251 (i1 := 1076) rfl ?_
  by_cases h8 : v7 = v2
  · rw [if_pos h8] at H
    refine n_cmpT (n_q md_251 rfl) (decide_eq_true h8) ?_
    refine g_go 1 md_251 (i1 := 1080) rfl ?_
    by_cases h9 : v2 = 0
    · rw [if_pos h9] at H
      refine n_ifF (n_q md_251 rfl) (fun e1 => of_decide_eq_true e1 h9) ?_
      refine g_go 2 md_251 (i1 := 1083) rfl ?_
      refine g_lald (n_q md_251 rfl) ?_
      refine g_go 2 md_251 (i1 := 1086) rfl ?_
      refine n_go (n_q md_251 rfl) (fun _ => rfl) ?_
      by_cases h10 : (lg_cmp ((s6 564 0).toInt64) v5.toInt64) = 0
      · rw [if_pos h10] at H
        refine n_ifT (n_q md_251 rfl) (decide_eq_true h10) ?_
        refine g_go 3 md_251 (i1 := 13) (ls1 := [some (.ref 1000000), some (.ref 0), some (.ref 199), some (.ref 564), some (.int (x4 + 7)), some (.int v2), some (.int v5)]) rfl ?_
        cases H
        exact K0 (x4 + 7, (s6, ex + k4)) rfl _ _
      · rw [if_neg h10] at H
        refine n_ifF (n_q md_251 rfl) (fun e1 => h10 (of_decide_eq_true e1)) ?_
        refine g_go 1 md_251 (i1 := 1089) rfl ?_
        cases H
        rw [← Kr _ rfl]
        exact n_iret (n_q md_251 rfl) (Or.inr rfl)
    · rw [if_neg h9] at H
      refine n_ifT (n_q md_251 rfl) (decide_eq_true h9) ?_
      refine g_go 3 md_251 (i1 := 13) (ls1 := [some (.ref 1000000), some (.ref 0), some (.ref 199), some (.ref 564), some (.int (x4 + 7)), some (.int v2), some (.int v5)]) rfl ?_
      cases H
      exact K0 (x4 + 7, (s6, ex + k4)) rfl _ _
  · rw [if_neg h8] at H
    refine n_cmpF (n_q md_251 rfl) (fun e1 => h8 (of_decide_eq_true e1)) ?_
    refine g_go 1 md_251 (i1 := 1078) rfl ?_
    cases H
    rw [← Kr _ rfl]
    exact n_iret (n_q md_251 rfl) (Or.inr rfl)
noncomputable def f251_1091 (X : m_X) (s : g_S) (ex : Nat) (x4 : Int32) : Option ((Int32 × (g_S × Nat)) ⊕ (Int32 × (g_S × Nat))) := (g_bd (f103 s) fun v1 s2 => g_bd (f205 s2) fun v3 s4 => if v1 = v3 then (some (.inl (x4 + 7, (s4, ex)))) else (some (.inr (0, (s4, ex)))))
set_option maxHeartbeats 10000000 in
set_option maxRecDepth 100000 in
theorem P251_1091 {d ex : Nat} {rr : m_R} {s : g_S} {x4 : Int32} {u5 u6 : Option Value} {z : (Int32 × (g_S × Nat)) ⊕ (Int32 × (g_S × Nat))} (H : f251_1091 X s ex x4 = some z) (hd : 86 ≤ d) (K0 : ∀ S : Int32 × (g_S × Nat), z = .inl S → ∀ u5 u6 : Option Value, n_R X (d + 1) 251 13 [some (.ref 1000000), some (.ref 0), some (.ref 199), some (.ref 564), some (.int S.1), u5, u6] [] (g_M S.2.1 S.2.2) rr) (Kr : ∀ q, z = .inr q → g_rL q = rr) : n_R X (d + 1) 251 1091 [some (.ref 1000000), some (.ref 0), some (.ref 199), some (.ref 564), some (.int x4), u5, u6] [] (g_M s ex) rr := by
  unfold f251_1091 at H
  refine g_go 1 md_251 (i1 := 1092) rfl ?_
  obtain ⟨v1, s2, hv1, H⟩ := g_bdp H
  refine n_callv (n_q md_251 rfl) (As := [.ref 0]) (rest := []) rfl rfl (Nat.le_of_ble_eq_true rfl) rfl (g_recv (b := 0) rfl t_0 rfl) (C103 (by omega) hv1) ?_
  refine g_go 1 md_251 (i1 := 1094) rfl ?_
  obtain ⟨v3, s4, hv3, H⟩ := g_bdp H
  refine n_callv (n_q md_251 rfl) (As := [.ref 199]) (rest := [.int v1]) rfl rfl (Nat.le_of_ble_eq_true rfl) rfl (g_recv (b := 0) rfl t_199 rfl) (C205 (by omega) hv3) ?_
  by_cases h5 : v1 = v3
  · rw [if_pos h5] at H
    refine n_cmpT (n_q md_251 rfl) (decide_eq_true h5) ?_
    refine g_go 2 md_251 (i1 := 13) (ls1 := [some (.ref 1000000), some (.ref 0), some (.ref 199), some (.ref 564), some (.int (x4 + 7)), u5, u6]) rfl ?_
    cases H
    exact K0 (x4 + 7, (s4, ex)) rfl _ _
  · rw [if_neg h5] at H
    refine n_cmpF (n_q md_251 rfl) (fun e1 => h5 (of_decide_eq_true e1)) ?_
    refine g_go 1 md_251 (i1 := 1097) rfl ?_
    cases H
    rw [← Kr _ rfl]
    exact n_iret (n_q md_251 rfl) (Or.inr rfl)
noncomputable def f251_1098 (X : m_X) (s : g_S) (ex : Nat) (x4 : Int32) : Option ((Int32 × (g_S × Nat)) ⊕ (Int32 × (g_S × Nat))) := (if m_in (x4 + 1) X.1 = true then if m_in (x4 + 2) X.1 = true then if (X.2 (x4 + 2).toNatClampNeg) = 0 then (g_wd (f244 s (X.2 (x4 + 1).toNatClampNeg) 0) fun v4 k6 s5 => if (X.2 (x4 + 2).toNatClampNeg) = 0 then (g_bd (f206 s5 (X.2 (x4 + 1).toNatClampNeg) 0) fun v8 s9 => (f133 s9).bind fun v10 => if v10 = v4 then (if v4 = 0 then (if (lg_cmp ((s9 564 0).toInt64) v8.toInt64) = 0 then (some (.inl (x4 + 7, (s9, ex + k6)))) else (some (.inr (0, (s9, ex + k6))))) else (some (.inl (x4 + 7, (s9, ex + k6))))) else (some (.inr (0, (s9, ex + k6))))) else (g_bd (f206 s5 (X.2 (x4 + 1).toNatClampNeg) 1) fun v8 s9 => (f133 s9).bind fun v10 => if v10 = v4 then (if v4 = 0 then (if (lg_cmp ((s9 564 0).toInt64) v8.toInt64) = 0 then (some (.inl (x4 + 7, (s9, ex + k6)))) else (some (.inr (0, (s9, ex + k6))))) else (some (.inl (x4 + 7, (s9, ex + k6))))) else (some (.inr (0, (s9, ex + k6)))))) else (g_wd (f244 s (X.2 (x4 + 1).toNatClampNeg) 1) fun v4 k6 s5 => if (X.2 (x4 + 2).toNatClampNeg) = 0 then (g_bd (f206 s5 (X.2 (x4 + 1).toNatClampNeg) 0) fun v8 s9 => (f133 s9).bind fun v10 => if v10 = v4 then (if v4 = 0 then (if (lg_cmp ((s9 564 0).toInt64) v8.toInt64) = 0 then (some (.inl (x4 + 7, (s9, ex + k6)))) else (some (.inr (0, (s9, ex + k6))))) else (some (.inl (x4 + 7, (s9, ex + k6))))) else (some (.inr (0, (s9, ex + k6))))) else (g_bd (f206 s5 (X.2 (x4 + 1).toNatClampNeg) 1) fun v8 s9 => (f133 s9).bind fun v10 => if v10 = v4 then (if v4 = 0 then (if (lg_cmp ((s9 564 0).toInt64) v8.toInt64) = 0 then (some (.inl (x4 + 7, (s9, ex + k6)))) else (some (.inr (0, (s9, ex + k6))))) else (some (.inl (x4 + 7, (s9, ex + k6))))) else (some (.inr (0, (s9, ex + k6)))))) else none else none)
set_option maxHeartbeats 10000000 in
set_option maxRecDepth 100000 in
theorem P251_1098 {d ex : Nat} {rr : m_R} {s : g_S} {x4 : Int32} {u5 u6 : Option Value} {z : (Int32 × (g_S × Nat)) ⊕ (Int32 × (g_S × Nat))} (H : f251_1098 X s ex x4 = some z) (hd : 86 ≤ d) (K0 : ∀ S : Int32 × (g_S × Nat), z = .inl S → ∀ u5 u6 : Option Value, n_R X (d + 1) 251 13 [some (.ref 1000000), some (.ref 0), some (.ref 199), some (.ref 564), some (.int S.1), u5, u6] [] (g_M S.2.1 S.2.2) rr) (Kr : ∀ q, z = .inr q → g_rL q = rr) : n_R X (d + 1) 251 1098 [some (.ref 1000000), some (.ref 0), some (.ref 199), some (.ref 564), some (.int x4), u5, u6] [] (g_M s ex) rr := by
  unfold f251_1098 at H
  refine g_go 5 md_251 (i1 := 1103) rfl ?_
  obtain ⟨h1, H⟩ := g_gd H
  refine n_scr (n_q md_251 rfl) h1 ?_
  refine g_go 4 md_251 (i1 := 1108) rfl ?_
  obtain ⟨h2, H⟩ := g_gd H
  refine n_scr (n_q md_251 rfl) h2 ?_
  by_cases h3 : (X.2 (x4 + 2).toNatClampNeg) = 0
  · rw [if_pos h3] at H
    refine n_ifT (n_q md_251 rfl) (decide_eq_true h3) ?_
    refine g_go 2 md_251 (i1 := 1114) rfl ?_
    obtain ⟨v4, k6, s5, hv4, H⟩ := g_wdp H
    refine n_callv (n_q md_251 rfl) (As := [.ref 0, .int (X.2 (x4 + 1).toNatClampNeg), .int 0, .ref 564]) (rest := []) rfl rfl (Nat.le_of_ble_eq_true rfl) rfl rfl (C244 (by omega) hv4) ?_
    refine g_go 6 md_251 (i1 := 1121) (ls1 := [some (.ref 1000000), some (.ref 0), some (.ref 199), some (.ref 564), some (.int x4), some (.int v4), u6]) rfl ?_
    refine n_scr (n_q md_251 rfl) h1 ?_
    refine g_go 4 md_251 (i1 := 1126) rfl ?_
    refine n_scr (n_q md_251 rfl) h2 ?_
    by_cases h7 : (X.2 (x4 + 2).toNatClampNeg) = 0
    · rw [if_pos h7] at H
      refine n_ifT (n_q md_251 rfl) (decide_eq_true h7) ?_
      refine g_go 1 md_251 (i1 := 1131) rfl ?_
      obtain ⟨v8, s9, hv8, H⟩ := g_bdp H
      refine n_callv (n_q md_251 rfl) (As := [.ref 199, .int (X.2 (x4 + 1).toNatClampNeg), .int 0]) (rest := []) rfl rfl (Nat.le_of_ble_eq_true rfl) rfl (g_recv (b := 0) rfl t_199 rfl) (C206 (by omega) hv8) ?_
      refine g_go 2 md_251 (i1 := 1134) (ls1 := [some (.ref 1000000), some (.ref 0), some (.ref 199), some (.ref 564), some (.int x4), some (.int v4), some (.int v8)]) rfl ?_
      obtain ⟨v10, hv10, H⟩ := g_bind H
      refine n_callv (n_q md_251 rfl) (As := [.ref 199]) (rest := []) rfl rfl (Nat.le_of_ble_eq_true rfl) rfl (g_recv (b := 0) rfl t_199 rfl) (C133 (by omega) hv10) ?_
      refine g_go 1 md_251 (i1 := 1136) rfl ?_
      by_cases h11 : v10 = v4
      · rw [if_pos h11] at H
        refine n_cmpT (n_q md_251 rfl) (decide_eq_true h11) ?_
        refine g_go 1 md_251 (i1 := 1140) rfl ?_
        by_cases h12 : v4 = 0
        · rw [if_pos h12] at H
          refine n_ifF (n_q md_251 rfl) (fun e1 => of_decide_eq_true e1 h12) ?_
          refine g_go 2 md_251 (i1 := 1143) rfl ?_
          refine g_lald (n_q md_251 rfl) ?_
          refine g_go 2 md_251 (i1 := 1146) rfl ?_
          refine n_go (n_q md_251 rfl) (fun _ => rfl) ?_
          by_cases h13 : (lg_cmp ((s9 564 0).toInt64) v8.toInt64) = 0
          · rw [if_pos h13] at H
            refine n_ifT (n_q md_251 rfl) (decide_eq_true h13) ?_
            refine g_go 3 md_251 (i1 := 13) (ls1 := [some (.ref 1000000), some (.ref 0), some (.ref 199), some (.ref 564), some (.int (x4 + 7)), some (.int v4), some (.int v8)]) rfl ?_
            cases H
            exact K0 (x4 + 7, (s9, ex + k6)) rfl _ _
          · rw [if_neg h13] at H
            refine n_ifF (n_q md_251 rfl) (fun e1 => h13 (of_decide_eq_true e1)) ?_
            refine g_go 1 md_251 (i1 := 1149) rfl ?_
            cases H
            rw [← Kr _ rfl]
            exact n_iret (n_q md_251 rfl) (Or.inr rfl)
        · rw [if_neg h12] at H
          refine n_ifT (n_q md_251 rfl) (decide_eq_true h12) ?_
          refine g_go 3 md_251 (i1 := 13) (ls1 := [some (.ref 1000000), some (.ref 0), some (.ref 199), some (.ref 564), some (.int (x4 + 7)), some (.int v4), some (.int v8)]) rfl ?_
          cases H
          exact K0 (x4 + 7, (s9, ex + k6)) rfl _ _
      · rw [if_neg h11] at H
        refine n_cmpF (n_q md_251 rfl) (fun e1 => h11 (of_decide_eq_true e1)) ?_
        refine g_go 1 md_251 (i1 := 1138) rfl ?_
        cases H
        rw [← Kr _ rfl]
        exact n_iret (n_q md_251 rfl) (Or.inr rfl)
    · rw [if_neg h7] at H
      refine n_ifF (n_q md_251 rfl) (fun e1 => h7 (of_decide_eq_true e1)) ?_
      refine g_go 2 md_251 (i1 := 1131) rfl ?_
      obtain ⟨v8, s9, hv8, H⟩ := g_bdp H
      refine n_callv (n_q md_251 rfl) (As := [.ref 199, .int (X.2 (x4 + 1).toNatClampNeg), .int 1]) (rest := []) rfl rfl (Nat.le_of_ble_eq_true rfl) rfl (g_recv (b := 0) rfl t_199 rfl) (C206 (by omega) hv8) ?_
      refine g_go 2 md_251 (i1 := 1134) (ls1 := [some (.ref 1000000), some (.ref 0), some (.ref 199), some (.ref 564), some (.int x4), some (.int v4), some (.int v8)]) rfl ?_
      obtain ⟨v10, hv10, H⟩ := g_bind H
      refine n_callv (n_q md_251 rfl) (As := [.ref 199]) (rest := []) rfl rfl (Nat.le_of_ble_eq_true rfl) rfl (g_recv (b := 0) rfl t_199 rfl) (C133 (by omega) hv10) ?_
      refine g_go 1 md_251 (i1 := 1136) rfl ?_
      by_cases h11 : v10 = v4
      · rw [if_pos h11] at H
        refine n_cmpT (n_q md_251 rfl) (decide_eq_true h11) ?_
        refine g_go 1 md_251 (i1 := 1140) rfl ?_
        by_cases h12 : v4 = 0
        · rw [if_pos h12] at H
          refine n_ifF (n_q md_251 rfl) (fun e1 => of_decide_eq_true e1 h12) ?_
          refine g_go 2 md_251 (i1 := 1143) rfl ?_
          refine g_lald (n_q md_251 rfl) ?_
          refine g_go 2 md_251 (i1 := 1146) rfl ?_
          refine n_go (n_q md_251 rfl) (fun _ => rfl) ?_
          by_cases h13 : (lg_cmp ((s9 564 0).toInt64) v8.toInt64) = 0
          · rw [if_pos h13] at H
            refine n_ifT (n_q md_251 rfl) (decide_eq_true h13) ?_
            refine g_go 3 md_251 (i1 := 13) (ls1 := [some (.ref 1000000), some (.ref 0), some (.ref 199), some (.ref 564), some (.int (x4 + 7)), some (.int v4), some (.int v8)]) rfl ?_
            cases H
            exact K0 (x4 + 7, (s9, ex + k6)) rfl _ _
          · rw [if_neg h13] at H
            refine n_ifF (n_q md_251 rfl) (fun e1 => h13 (of_decide_eq_true e1)) ?_
            refine g_go 1 md_251 (i1 := 1149) rfl ?_
            cases H
            rw [← Kr _ rfl]
            exact n_iret (n_q md_251 rfl) (Or.inr rfl)
        · rw [if_neg h12] at H
          refine n_ifT (n_q md_251 rfl) (decide_eq_true h12) ?_
          refine g_go 3 md_251 (i1 := 13) (ls1 := [some (.ref 1000000), some (.ref 0), some (.ref 199), some (.ref 564), some (.int (x4 + 7)), some (.int v4), some (.int v8)]) rfl ?_
          cases H
          exact K0 (x4 + 7, (s9, ex + k6)) rfl _ _
      · rw [if_neg h11] at H
        refine n_cmpF (n_q md_251 rfl) (fun e1 => h11 (of_decide_eq_true e1)) ?_
        refine g_go 1 md_251 (i1 := 1138) rfl ?_
        cases H
        rw [← Kr _ rfl]
        exact n_iret (n_q md_251 rfl) (Or.inr rfl)
  · rw [if_neg h3] at H
    refine n_ifF (n_q md_251 rfl) (fun e1 => h3 (of_decide_eq_true e1)) ?_
    refine g_go 3 md_251 (i1 := 1114) rfl ?_
    obtain ⟨v4, k6, s5, hv4, H⟩ := g_wdp H
    refine n_callv (n_q md_251 rfl) (As := [.ref 0, .int (X.2 (x4 + 1).toNatClampNeg), .int 1, .ref 564]) (rest := []) rfl rfl (Nat.le_of_ble_eq_true rfl) rfl rfl (C244 (by omega) hv4) ?_
    refine g_go 6 md_251 (i1 := 1121) (ls1 := [some (.ref 1000000), some (.ref 0), some (.ref 199), some (.ref 564), some (.int x4), some (.int v4), u6]) rfl ?_
    refine n_scr (n_q md_251 rfl) h1 ?_
    refine g_go 4 md_251 (i1 := 1126) rfl ?_
    refine n_scr (n_q md_251 rfl) h2 ?_
    by_cases h7 : (X.2 (x4 + 2).toNatClampNeg) = 0
    · rw [if_pos h7] at H
      refine n_ifT (n_q md_251 rfl) (decide_eq_true h7) ?_
      refine g_go 1 md_251 (i1 := 1131) rfl ?_
      obtain ⟨v8, s9, hv8, H⟩ := g_bdp H
      refine n_callv (n_q md_251 rfl) (As := [.ref 199, .int (X.2 (x4 + 1).toNatClampNeg), .int 0]) (rest := []) rfl rfl (Nat.le_of_ble_eq_true rfl) rfl (g_recv (b := 0) rfl t_199 rfl) (C206 (by omega) hv8) ?_
      refine g_go 2 md_251 (i1 := 1134) (ls1 := [some (.ref 1000000), some (.ref 0), some (.ref 199), some (.ref 564), some (.int x4), some (.int v4), some (.int v8)]) rfl ?_
      obtain ⟨v10, hv10, H⟩ := g_bind H
      refine n_callv (n_q md_251 rfl) (As := [.ref 199]) (rest := []) rfl rfl (Nat.le_of_ble_eq_true rfl) rfl (g_recv (b := 0) rfl t_199 rfl) (C133 (by omega) hv10) ?_
      refine g_go 1 md_251 (i1 := 1136) rfl ?_
      by_cases h11 : v10 = v4
      · rw [if_pos h11] at H
        refine n_cmpT (n_q md_251 rfl) (decide_eq_true h11) ?_
        refine g_go 1 md_251 (i1 := 1140) rfl ?_
        by_cases h12 : v4 = 0
        · rw [if_pos h12] at H
          refine n_ifF (n_q md_251 rfl) (fun e1 => of_decide_eq_true e1 h12) ?_
          refine g_go 2 md_251 (i1 := 1143) rfl ?_
          refine g_lald (n_q md_251 rfl) ?_
          refine g_go 2 md_251 (i1 := 1146) rfl ?_
          refine n_go (n_q md_251 rfl) (fun _ => rfl) ?_
          by_cases h13 : (lg_cmp ((s9 564 0).toInt64) v8.toInt64) = 0
          · rw [if_pos h13] at H
            refine n_ifT (n_q md_251 rfl) (decide_eq_true h13) ?_
            refine g_go 3 md_251 (i1 := 13) (ls1 := [some (.ref 1000000), some (.ref 0), some (.ref 199), some (.ref 564), some (.int (x4 + 7)), some (.int v4), some (.int v8)]) rfl ?_
            cases H
            exact K0 (x4 + 7, (s9, ex + k6)) rfl _ _
          · rw [if_neg h13] at H
            refine n_ifF (n_q md_251 rfl) (fun e1 => h13 (of_decide_eq_true e1)) ?_
            refine g_go 1 md_251 (i1 := 1149) rfl ?_
            cases H
            rw [← Kr _ rfl]
            exact n_iret (n_q md_251 rfl) (Or.inr rfl)
        · rw [if_neg h12] at H
          refine n_ifT (n_q md_251 rfl) (decide_eq_true h12) ?_
          refine g_go 3 md_251 (i1 := 13) (ls1 := [some (.ref 1000000), some (.ref 0), some (.ref 199), some (.ref 564), some (.int (x4 + 7)), some (.int v4), some (.int v8)]) rfl ?_
          cases H
          exact K0 (x4 + 7, (s9, ex + k6)) rfl _ _
      · rw [if_neg h11] at H
        refine n_cmpF (n_q md_251 rfl) (fun e1 => h11 (of_decide_eq_true e1)) ?_
        refine g_go 1 md_251 (i1 := 1138) rfl ?_
        cases H
        rw [← Kr _ rfl]
        exact n_iret (n_q md_251 rfl) (Or.inr rfl)
    · rw [if_neg h7] at H
      refine n_ifF (n_q md_251 rfl) (fun e1 => h7 (of_decide_eq_true e1)) ?_
      refine g_go 2 md_251 (i1 := 1131) rfl ?_
      obtain ⟨v8, s9, hv8, H⟩ := g_bdp H
      refine n_callv (n_q md_251 rfl) (As := [.ref 199, .int (X.2 (x4 + 1).toNatClampNeg), .int 1]) (rest := []) rfl rfl (Nat.le_of_ble_eq_true rfl) rfl (g_recv (b := 0) rfl t_199 rfl) (C206 (by omega) hv8) ?_
      refine g_go 2 md_251 (i1 := 1134) (ls1 := [some (.ref 1000000), some (.ref 0), some (.ref 199), some (.ref 564), some (.int x4), some (.int v4), some (.int v8)]) rfl ?_
      obtain ⟨v10, hv10, H⟩ := g_bind H
      refine n_callv (n_q md_251 rfl) (As := [.ref 199]) (rest := []) rfl rfl (Nat.le_of_ble_eq_true rfl) rfl (g_recv (b := 0) rfl t_199 rfl) (C133 (by omega) hv10) ?_
      refine g_go 1 md_251 (i1 := 1136) rfl ?_
      by_cases h11 : v10 = v4
      · rw [if_pos h11] at H
        refine n_cmpT (n_q md_251 rfl) (decide_eq_true h11) ?_
        refine g_go 1 md_251 (i1 := 1140) rfl ?_
        by_cases h12 : v4 = 0
        · rw [if_pos h12] at H
          refine n_ifF (n_q md_251 rfl) (fun e1 => of_decide_eq_true e1 h12) ?_
          refine g_go 2 md_251 (i1 := 1143) rfl ?_
          refine g_lald (n_q md_251 rfl) ?_
          refine g_go 2 md_251 (i1 := 1146) rfl ?_
          refine n_go (n_q md_251 rfl) (fun _ => rfl) ?_
          by_cases h13 : (lg_cmp ((s9 564 0).toInt64) v8.toInt64) = 0
          · rw [if_pos h13] at H
            refine n_ifT (n_q md_251 rfl) (decide_eq_true h13) ?_
            refine g_go 3 md_251 (i1 := 13) (ls1 := [some (.ref 1000000), some (.ref 0), some (.ref 199), some (.ref 564), some (.int (x4 + 7)), some (.int v4), some (.int v8)]) rfl ?_
            cases H
            exact K0 (x4 + 7, (s9, ex + k6)) rfl _ _
          · rw [if_neg h13] at H
            refine n_ifF (n_q md_251 rfl) (fun e1 => h13 (of_decide_eq_true e1)) ?_
            refine g_go 1 md_251 (i1 := 1149) rfl ?_
            cases H
            rw [← Kr _ rfl]
            exact n_iret (n_q md_251 rfl) (Or.inr rfl)
        · rw [if_neg h12] at H
          refine n_ifT (n_q md_251 rfl) (decide_eq_true h12) ?_
          refine g_go 3 md_251 (i1 := 13) (ls1 := [some (.ref 1000000), some (.ref 0), some (.ref 199), some (.ref 564), some (.int (x4 + 7)), some (.int v4), some (.int v8)]) rfl ?_
          cases H
          exact K0 (x4 + 7, (s9, ex + k6)) rfl _ _
      · rw [if_neg h11] at H
        refine n_cmpF (n_q md_251 rfl) (fun e1 => h11 (of_decide_eq_true e1)) ?_
        refine g_go 1 md_251 (i1 := 1138) rfl ?_
        cases H
        rw [← Kr _ rfl]
        exact n_iret (n_q md_251 rfl) (Or.inr rfl)
noncomputable def f251_1151 (X : m_X) (s : g_S) (ex : Nat) (x4 : Int32) : Option ((Int32 × (g_S × Nat)) ⊕ (Int32 × (g_S × Nat))) := (g_bd (f105 s) fun v1 s2 => g_bd (f208 s2) fun v3 s4 => if v1 = v3 then (some (.inl (x4 + 7, (s4, ex)))) else (some (.inr (0, (s4, ex)))))
set_option maxHeartbeats 10000000 in
set_option maxRecDepth 100000 in
theorem P251_1151 {d ex : Nat} {rr : m_R} {s : g_S} {x4 : Int32} {u5 u6 : Option Value} {z : (Int32 × (g_S × Nat)) ⊕ (Int32 × (g_S × Nat))} (H : f251_1151 X s ex x4 = some z) (hd : 86 ≤ d) (K0 : ∀ S : Int32 × (g_S × Nat), z = .inl S → ∀ u5 u6 : Option Value, n_R X (d + 1) 251 13 [some (.ref 1000000), some (.ref 0), some (.ref 199), some (.ref 564), some (.int S.1), u5, u6] [] (g_M S.2.1 S.2.2) rr) (Kr : ∀ q, z = .inr q → g_rL q = rr) : n_R X (d + 1) 251 1151 [some (.ref 1000000), some (.ref 0), some (.ref 199), some (.ref 564), some (.int x4), u5, u6] [] (g_M s ex) rr := by
  unfold f251_1151 at H
  refine g_go 1 md_251 (i1 := 1152) rfl ?_
  obtain ⟨v1, s2, hv1, H⟩ := g_bdp H
  refine n_callv (n_q md_251 rfl) (As := [.ref 0]) (rest := []) rfl rfl (Nat.le_of_ble_eq_true rfl) rfl (g_recv (b := 0) rfl t_0 rfl) (C105 (by omega) hv1) ?_
  refine g_go 1 md_251 (i1 := 1154) rfl ?_
  obtain ⟨v3, s4, hv3, H⟩ := g_bdp H
  refine n_callv (n_q md_251 rfl) (As := [.ref 199]) (rest := [.int v1]) rfl rfl (Nat.le_of_ble_eq_true rfl) rfl (g_recv (b := 0) rfl t_199 rfl) (C208 (by omega) hv3) ?_
  by_cases h5 : v1 = v3
  · rw [if_pos h5] at H
    refine n_cmpT (n_q md_251 rfl) (decide_eq_true h5) ?_
    refine g_go 2 md_251 (i1 := 13) (ls1 := [some (.ref 1000000), some (.ref 0), some (.ref 199), some (.ref 564), some (.int (x4 + 7)), u5, u6]) rfl ?_
    cases H
    exact K0 (x4 + 7, (s4, ex)) rfl _ _
  · rw [if_neg h5] at H
    refine n_cmpF (n_q md_251 rfl) (fun e1 => h5 (of_decide_eq_true e1)) ?_
    refine g_go 1 md_251 (i1 := 1157) rfl ?_
    cases H
    rw [← Kr _ rfl]
    exact n_iret (n_q md_251 rfl) (Or.inr rfl)
noncomputable def f251_1158 (X : m_X) (s : g_S) (ex : Nat) (x4 : Int32) : Option ((Int32 × (g_S × Nat)) ⊕ (Int32 × (g_S × Nat))) := (if m_in (x4 + 1) X.1 = true then if m_in (x4 + 2) X.1 = true then g_wd (f245 s (X.2 (x4 + 1).toNatClampNeg) (X.2 (x4 + 2).toNatClampNeg)) fun v3 k5 s4 => g_bd (f209 s4 (X.2 (x4 + 1).toNatClampNeg) (X.2 (x4 + 2).toNatClampNeg)) fun v6 s7 => (f133 s7).bind fun v8 => if v8 = v3 then (if v3 = 0 then (if (lg_cmp ((s7 564 0).toInt64) v6.toInt64) = 0 then (some (.inl (x4 + 7, (s7, ex + k5)))) else (some (.inr (0, (s7, ex + k5))))) else (some (.inl (x4 + 7, (s7, ex + k5))))) else (some (.inr (0, (s7, ex + k5)))) else none else none)
set_option maxHeartbeats 10000000 in
set_option maxRecDepth 100000 in
theorem P251_1158 {d ex : Nat} {rr : m_R} {s : g_S} {x4 : Int32} {u5 u6 : Option Value} {z : (Int32 × (g_S × Nat)) ⊕ (Int32 × (g_S × Nat))} (H : f251_1158 X s ex x4 = some z) (hd : 86 ≤ d) (K0 : ∀ S : Int32 × (g_S × Nat), z = .inl S → ∀ u5 u6 : Option Value, n_R X (d + 1) 251 13 [some (.ref 1000000), some (.ref 0), some (.ref 199), some (.ref 564), some (.int S.1), u5, u6] [] (g_M S.2.1 S.2.2) rr) (Kr : ∀ q, z = .inr q → g_rL q = rr) : n_R X (d + 1) 251 1158 [some (.ref 1000000), some (.ref 0), some (.ref 199), some (.ref 564), some (.int x4), u5, u6] [] (g_M s ex) rr := by
  unfold f251_1158 at H
  refine g_go 5 md_251 (i1 := 1163) rfl ?_
  obtain ⟨h1, H⟩ := g_gd H
  refine n_scr (n_q md_251 rfl) h1 ?_
  refine g_go 4 md_251 (i1 := 1168) rfl ?_
  obtain ⟨h2, H⟩ := g_gd H
  refine n_scr (n_q md_251 rfl) h2 ?_
  refine g_go 1 md_251 (i1 := 1170) rfl ?_
  obtain ⟨v3, k5, s4, hv3, H⟩ := g_wdp H
  refine n_callv (n_q md_251 rfl) (As := [.ref 0, .int (X.2 (x4 + 1).toNatClampNeg), .int (X.2 (x4 + 2).toNatClampNeg), .ref 564]) (rest := []) rfl rfl (Nat.le_of_ble_eq_true rfl) rfl rfl (C245 (by omega) hv3) ?_
  refine g_go 6 md_251 (i1 := 1177) (ls1 := [some (.ref 1000000), some (.ref 0), some (.ref 199), some (.ref 564), some (.int x4), some (.int v3), u6]) rfl ?_
  refine n_scr (n_q md_251 rfl) h1 ?_
  refine g_go 4 md_251 (i1 := 1182) rfl ?_
  refine n_scr (n_q md_251 rfl) h2 ?_
  obtain ⟨v6, s7, hv6, H⟩ := g_bdp H
  refine n_callv (n_q md_251 rfl) (As := [.ref 199, .int (X.2 (x4 + 1).toNatClampNeg), .int (X.2 (x4 + 2).toNatClampNeg)]) (rest := []) rfl rfl (Nat.le_of_ble_eq_true rfl) rfl (g_recv (b := 0) rfl t_199 rfl) (C209 (by omega) hv6) ?_
  refine g_go 2 md_251 (i1 := 1186) (ls1 := [some (.ref 1000000), some (.ref 0), some (.ref 199), some (.ref 564), some (.int x4), some (.int v3), some (.int v6)]) rfl ?_
  obtain ⟨v8, hv8, H⟩ := g_bind H
  refine n_callv (n_q md_251 rfl) (As := [.ref 199]) (rest := []) rfl rfl (Nat.le_of_ble_eq_true rfl) rfl (g_recv (b := 0) rfl t_199 rfl) (C133 (by omega) hv8) ?_
  refine g_go 1 md_251 (i1 := 1188) rfl ?_
  by_cases h9 : v8 = v3
  · rw [if_pos h9] at H
    refine n_cmpT (n_q md_251 rfl) (decide_eq_true h9) ?_
    refine g_go 1 md_251 (i1 := 1192) rfl ?_
    by_cases h10 : v3 = 0
    · rw [if_pos h10] at H
      refine n_ifF (n_q md_251 rfl) (fun e1 => of_decide_eq_true e1 h10) ?_
      refine g_go 2 md_251 (i1 := 1195) rfl ?_
      refine g_lald (n_q md_251 rfl) ?_
      refine g_go 2 md_251 (i1 := 1198) rfl ?_
      refine n_go (n_q md_251 rfl) (fun _ => rfl) ?_
      by_cases h11 : (lg_cmp ((s7 564 0).toInt64) v6.toInt64) = 0
      · rw [if_pos h11] at H
        refine n_ifT (n_q md_251 rfl) (decide_eq_true h11) ?_
        refine g_go 3 md_251 (i1 := 13) (ls1 := [some (.ref 1000000), some (.ref 0), some (.ref 199), some (.ref 564), some (.int (x4 + 7)), some (.int v3), some (.int v6)]) rfl ?_
        cases H
        exact K0 (x4 + 7, (s7, ex + k5)) rfl _ _
      · rw [if_neg h11] at H
        refine n_ifF (n_q md_251 rfl) (fun e1 => h11 (of_decide_eq_true e1)) ?_
        refine g_go 1 md_251 (i1 := 1201) rfl ?_
        cases H
        rw [← Kr _ rfl]
        exact n_iret (n_q md_251 rfl) (Or.inr rfl)
    · rw [if_neg h10] at H
      refine n_ifT (n_q md_251 rfl) (decide_eq_true h10) ?_
      refine g_go 3 md_251 (i1 := 13) (ls1 := [some (.ref 1000000), some (.ref 0), some (.ref 199), some (.ref 564), some (.int (x4 + 7)), some (.int v3), some (.int v6)]) rfl ?_
      cases H
      exact K0 (x4 + 7, (s7, ex + k5)) rfl _ _
  · rw [if_neg h9] at H
    refine n_cmpF (n_q md_251 rfl) (fun e1 => h9 (of_decide_eq_true e1)) ?_
    refine g_go 1 md_251 (i1 := 1190) rfl ?_
    cases H
    rw [← Kr _ rfl]
    exact n_iret (n_q md_251 rfl) (Or.inr rfl)
noncomputable def f251_1203 (X : m_X) (s : g_S) (ex : Nat) (x4 : Int32) : Option ((Int32 × (g_S × Nat)) ⊕ (Int32 × (g_S × Nat))) := (if m_in (x4 + 1) X.1 = true then if m_in (x4 + 2) X.1 = true then g_wd (f246 s (X.2 (x4 + 1).toNatClampNeg) (X.2 (x4 + 2).toNatClampNeg)) fun v3 k5 s4 => g_bd (f210 s4 (X.2 (x4 + 1).toNatClampNeg) (X.2 (x4 + 2).toNatClampNeg)) fun v6 s7 => (f133 s7).bind fun v8 => if v8 = v3 then (if v3 = 0 then (if (lg_cmp ((s7 564 0).toInt64) v6.toInt64) = 0 then (some (.inl (x4 + 7, (s7, ex + k5)))) else (some (.inr (0, (s7, ex + k5))))) else (some (.inl (x4 + 7, (s7, ex + k5))))) else (some (.inr (0, (s7, ex + k5)))) else none else none)
set_option maxHeartbeats 10000000 in
set_option maxRecDepth 100000 in
theorem P251_1203 {d ex : Nat} {rr : m_R} {s : g_S} {x4 : Int32} {u5 u6 : Option Value} {z : (Int32 × (g_S × Nat)) ⊕ (Int32 × (g_S × Nat))} (H : f251_1203 X s ex x4 = some z) (hd : 86 ≤ d) (K0 : ∀ S : Int32 × (g_S × Nat), z = .inl S → ∀ u5 u6 : Option Value, n_R X (d + 1) 251 13 [some (.ref 1000000), some (.ref 0), some (.ref 199), some (.ref 564), some (.int S.1), u5, u6] [] (g_M S.2.1 S.2.2) rr) (Kr : ∀ q, z = .inr q → g_rL q = rr) : n_R X (d + 1) 251 1203 [some (.ref 1000000), some (.ref 0), some (.ref 199), some (.ref 564), some (.int x4), u5, u6] [] (g_M s ex) rr := by
  unfold f251_1203 at H
  refine g_go 5 md_251 (i1 := 1208) rfl ?_
  obtain ⟨h1, H⟩ := g_gd H
  refine n_scr (n_q md_251 rfl) h1 ?_
  refine g_go 4 md_251 (i1 := 1213) rfl ?_
  obtain ⟨h2, H⟩ := g_gd H
  refine n_scr (n_q md_251 rfl) h2 ?_
  refine g_go 1 md_251 (i1 := 1215) rfl ?_
  obtain ⟨v3, k5, s4, hv3, H⟩ := g_wdp H
  refine n_callv (n_q md_251 rfl) (As := [.ref 0, .int (X.2 (x4 + 1).toNatClampNeg), .int (X.2 (x4 + 2).toNatClampNeg), .ref 564]) (rest := []) rfl rfl (Nat.le_of_ble_eq_true rfl) rfl rfl (C246 (by omega) hv3) ?_
  refine g_go 6 md_251 (i1 := 1222) (ls1 := [some (.ref 1000000), some (.ref 0), some (.ref 199), some (.ref 564), some (.int x4), some (.int v3), u6]) rfl ?_
  refine n_scr (n_q md_251 rfl) h1 ?_
  refine g_go 4 md_251 (i1 := 1227) rfl ?_
  refine n_scr (n_q md_251 rfl) h2 ?_
  obtain ⟨v6, s7, hv6, H⟩ := g_bdp H
  refine n_callv (n_q md_251 rfl) (As := [.ref 199, .int (X.2 (x4 + 1).toNatClampNeg), .int (X.2 (x4 + 2).toNatClampNeg)]) (rest := []) rfl rfl (Nat.le_of_ble_eq_true rfl) rfl (g_recv (b := 0) rfl t_199 rfl) (C210 (by omega) hv6) ?_
  refine g_go 2 md_251 (i1 := 1231) (ls1 := [some (.ref 1000000), some (.ref 0), some (.ref 199), some (.ref 564), some (.int x4), some (.int v3), some (.int v6)]) rfl ?_
  obtain ⟨v8, hv8, H⟩ := g_bind H
  refine n_callv (n_q md_251 rfl) (As := [.ref 199]) (rest := []) rfl rfl (Nat.le_of_ble_eq_true rfl) rfl (g_recv (b := 0) rfl t_199 rfl) (C133 (by omega) hv8) ?_
  refine g_go 1 md_251 (i1 := 1233) rfl ?_
  by_cases h9 : v8 = v3
  · rw [if_pos h9] at H
    refine n_cmpT (n_q md_251 rfl) (decide_eq_true h9) ?_
    refine g_go 1 md_251 (i1 := 1237) rfl ?_
    by_cases h10 : v3 = 0
    · rw [if_pos h10] at H
      refine n_ifF (n_q md_251 rfl) (fun e1 => of_decide_eq_true e1 h10) ?_
      refine g_go 2 md_251 (i1 := 1240) rfl ?_
      refine g_lald (n_q md_251 rfl) ?_
      refine g_go 2 md_251 (i1 := 1243) rfl ?_
      refine n_go (n_q md_251 rfl) (fun _ => rfl) ?_
      by_cases h11 : (lg_cmp ((s7 564 0).toInt64) v6.toInt64) = 0
      · rw [if_pos h11] at H
        refine n_ifT (n_q md_251 rfl) (decide_eq_true h11) ?_
        refine g_go 3 md_251 (i1 := 13) (ls1 := [some (.ref 1000000), some (.ref 0), some (.ref 199), some (.ref 564), some (.int (x4 + 7)), some (.int v3), some (.int v6)]) rfl ?_
        cases H
        exact K0 (x4 + 7, (s7, ex + k5)) rfl _ _
      · rw [if_neg h11] at H
        refine n_ifF (n_q md_251 rfl) (fun e1 => h11 (of_decide_eq_true e1)) ?_
        refine g_go 1 md_251 (i1 := 1246) rfl ?_
        cases H
        rw [← Kr _ rfl]
        exact n_iret (n_q md_251 rfl) (Or.inr rfl)
    · rw [if_neg h10] at H
      refine n_ifT (n_q md_251 rfl) (decide_eq_true h10) ?_
      refine g_go 3 md_251 (i1 := 13) (ls1 := [some (.ref 1000000), some (.ref 0), some (.ref 199), some (.ref 564), some (.int (x4 + 7)), some (.int v3), some (.int v6)]) rfl ?_
      cases H
      exact K0 (x4 + 7, (s7, ex + k5)) rfl _ _
  · rw [if_neg h9] at H
    refine n_cmpF (n_q md_251 rfl) (fun e1 => h9 (of_decide_eq_true e1)) ?_
    refine g_go 1 md_251 (i1 := 1235) rfl ?_
    cases H
    rw [← Kr _ rfl]
    exact n_iret (n_q md_251 rfl) (Or.inr rfl)
noncomputable def f251_1248 (X : m_X) (s : g_S) (ex : Nat) (x4 : Int32) : Option ((Int32 × (g_S × Nat)) ⊕ (Int32 × (g_S × Nat))) := (if m_in (x4 + 1) X.1 = true then if m_in (x4 + 2) X.1 = true then g_wd (f247 s (X.2 (x4 + 1).toNatClampNeg) (X.2 (x4 + 2).toNatClampNeg)) fun v3 k5 s4 => g_bd (f211 s4 (X.2 (x4 + 1).toNatClampNeg) (X.2 (x4 + 2).toNatClampNeg)) fun v6 s7 => (f133 s7).bind fun v8 => if v8 = v3 then (if v3 = 0 then (if (lg_cmp ((s7 564 0).toInt64) v6.toInt64) = 0 then (some (.inl (x4 + 7, (s7, ex + k5)))) else (some (.inr (0, (s7, ex + k5))))) else (some (.inl (x4 + 7, (s7, ex + k5))))) else (some (.inr (0, (s7, ex + k5)))) else none else none)
set_option maxHeartbeats 10000000 in
set_option maxRecDepth 100000 in
theorem P251_1248 {d ex : Nat} {rr : m_R} {s : g_S} {x4 : Int32} {u5 u6 : Option Value} {z : (Int32 × (g_S × Nat)) ⊕ (Int32 × (g_S × Nat))} (H : f251_1248 X s ex x4 = some z) (hd : 86 ≤ d) (K0 : ∀ S : Int32 × (g_S × Nat), z = .inl S → ∀ u5 u6 : Option Value, n_R X (d + 1) 251 13 [some (.ref 1000000), some (.ref 0), some (.ref 199), some (.ref 564), some (.int S.1), u5, u6] [] (g_M S.2.1 S.2.2) rr) (Kr : ∀ q, z = .inr q → g_rL q = rr) : n_R X (d + 1) 251 1248 [some (.ref 1000000), some (.ref 0), some (.ref 199), some (.ref 564), some (.int x4), u5, u6] [] (g_M s ex) rr := by
  unfold f251_1248 at H
  refine g_go 5 md_251 (i1 := 1253) rfl ?_
  obtain ⟨h1, H⟩ := g_gd H
  refine n_scr (n_q md_251 rfl) h1 ?_
  refine g_go 4 md_251 (i1 := 1258) rfl ?_
  obtain ⟨h2, H⟩ := g_gd H
  refine n_scr (n_q md_251 rfl) h2 ?_
  refine g_go 1 md_251 (i1 := 1260) rfl ?_
  obtain ⟨v3, k5, s4, hv3, H⟩ := g_wdp H
  refine n_callv (n_q md_251 rfl) (As := [.ref 0, .int (X.2 (x4 + 1).toNatClampNeg), .int (X.2 (x4 + 2).toNatClampNeg), .ref 564]) (rest := []) rfl rfl (Nat.le_of_ble_eq_true rfl) rfl rfl (C247 (by omega) hv3) ?_
  refine g_go 6 md_251 (i1 := 1267) (ls1 := [some (.ref 1000000), some (.ref 0), some (.ref 199), some (.ref 564), some (.int x4), some (.int v3), u6]) rfl ?_
  refine n_scr (n_q md_251 rfl) h1 ?_
  refine g_go 4 md_251 (i1 := 1272) rfl ?_
  refine n_scr (n_q md_251 rfl) h2 ?_
  obtain ⟨v6, s7, hv6, H⟩ := g_bdp H
  refine n_callv (n_q md_251 rfl) (As := [.ref 199, .int (X.2 (x4 + 1).toNatClampNeg), .int (X.2 (x4 + 2).toNatClampNeg)]) (rest := []) rfl rfl (Nat.le_of_ble_eq_true rfl) rfl (g_recv (b := 0) rfl t_199 rfl) (C211 (by omega) hv6) ?_
  refine g_go 2 md_251 (i1 := 1276) (ls1 := [some (.ref 1000000), some (.ref 0), some (.ref 199), some (.ref 564), some (.int x4), some (.int v3), some (.int v6)]) rfl ?_
  obtain ⟨v8, hv8, H⟩ := g_bind H
  refine n_callv (n_q md_251 rfl) (As := [.ref 199]) (rest := []) rfl rfl (Nat.le_of_ble_eq_true rfl) rfl (g_recv (b := 0) rfl t_199 rfl) (C133 (by omega) hv8) ?_
  refine g_go 1 md_251 (i1 := 1278) rfl ?_
  by_cases h9 : v8 = v3
  · rw [if_pos h9] at H
    refine n_cmpT (n_q md_251 rfl) (decide_eq_true h9) ?_
    refine g_go 1 md_251 (i1 := 1282) rfl ?_
    by_cases h10 : v3 = 0
    · rw [if_pos h10] at H
      refine n_ifF (n_q md_251 rfl) (fun e1 => of_decide_eq_true e1 h10) ?_
      refine g_go 2 md_251 (i1 := 1285) rfl ?_
      refine g_lald (n_q md_251 rfl) ?_
      refine g_go 2 md_251 (i1 := 1288) rfl ?_
      refine n_go (n_q md_251 rfl) (fun _ => rfl) ?_
      by_cases h11 : (lg_cmp ((s7 564 0).toInt64) v6.toInt64) = 0
      · rw [if_pos h11] at H
        refine n_ifT (n_q md_251 rfl) (decide_eq_true h11) ?_
        refine g_go 3 md_251 (i1 := 13) (ls1 := [some (.ref 1000000), some (.ref 0), some (.ref 199), some (.ref 564), some (.int (x4 + 7)), some (.int v3), some (.int v6)]) rfl ?_
        cases H
        exact K0 (x4 + 7, (s7, ex + k5)) rfl _ _
      · rw [if_neg h11] at H
        refine n_ifF (n_q md_251 rfl) (fun e1 => h11 (of_decide_eq_true e1)) ?_
        refine g_go 1 md_251 (i1 := 1291) rfl ?_
        cases H
        rw [← Kr _ rfl]
        exact n_iret (n_q md_251 rfl) (Or.inr rfl)
    · rw [if_neg h10] at H
      refine n_ifT (n_q md_251 rfl) (decide_eq_true h10) ?_
      refine g_go 3 md_251 (i1 := 13) (ls1 := [some (.ref 1000000), some (.ref 0), some (.ref 199), some (.ref 564), some (.int (x4 + 7)), some (.int v3), some (.int v6)]) rfl ?_
      cases H
      exact K0 (x4 + 7, (s7, ex + k5)) rfl _ _
  · rw [if_neg h9] at H
    refine n_cmpF (n_q md_251 rfl) (fun e1 => h9 (of_decide_eq_true e1)) ?_
    refine g_go 1 md_251 (i1 := 1280) rfl ?_
    cases H
    rw [← Kr _ rfl]
    exact n_iret (n_q md_251 rfl) (Or.inr rfl)
noncomputable def f251_1293 (X : m_X) (s : g_S) (ex : Nat) (x4 : Int32) : Option ((Int32 × (g_S × Nat)) ⊕ (Int32 × (g_S × Nat))) := (if m_in (x4 + 1) X.1 = true then if m_in (x4 + 2) X.1 = true then g_wd (f248 s (X.2 (x4 + 1).toNatClampNeg) (X.2 (x4 + 2).toNatClampNeg)) fun v3 k5 s4 => g_bd (f212 s4 (X.2 (x4 + 1).toNatClampNeg) (X.2 (x4 + 2).toNatClampNeg)) fun v6 s7 => (f133 s7).bind fun v8 => if v8 = v3 then (if v3 = 0 then (if (lg_cmp ((s7 564 0).toInt64) v6.toInt64) = 0 then (some (.inl (x4 + 7, (s7, ex + k5)))) else (some (.inr (0, (s7, ex + k5))))) else (some (.inl (x4 + 7, (s7, ex + k5))))) else (some (.inr (0, (s7, ex + k5)))) else none else none)
set_option maxHeartbeats 10000000 in
set_option maxRecDepth 100000 in
theorem P251_1293 {d ex : Nat} {rr : m_R} {s : g_S} {x4 : Int32} {u5 u6 : Option Value} {z : (Int32 × (g_S × Nat)) ⊕ (Int32 × (g_S × Nat))} (H : f251_1293 X s ex x4 = some z) (hd : 86 ≤ d) (K0 : ∀ S : Int32 × (g_S × Nat), z = .inl S → ∀ u5 u6 : Option Value, n_R X (d + 1) 251 13 [some (.ref 1000000), some (.ref 0), some (.ref 199), some (.ref 564), some (.int S.1), u5, u6] [] (g_M S.2.1 S.2.2) rr) (Kr : ∀ q, z = .inr q → g_rL q = rr) : n_R X (d + 1) 251 1293 [some (.ref 1000000), some (.ref 0), some (.ref 199), some (.ref 564), some (.int x4), u5, u6] [] (g_M s ex) rr := by
  unfold f251_1293 at H
  refine g_go 5 md_251 (i1 := 1298) rfl ?_
  obtain ⟨h1, H⟩ := g_gd H
  refine n_scr (n_q md_251 rfl) h1 ?_
  refine g_go 4 md_251 (i1 := 1303) rfl ?_
  obtain ⟨h2, H⟩ := g_gd H
  refine n_scr (n_q md_251 rfl) h2 ?_
  refine g_go 1 md_251 (i1 := 1305) rfl ?_
  obtain ⟨v3, k5, s4, hv3, H⟩ := g_wdp H
  refine n_callv (n_q md_251 rfl) (As := [.ref 0, .int (X.2 (x4 + 1).toNatClampNeg), .int (X.2 (x4 + 2).toNatClampNeg), .ref 564]) (rest := []) rfl rfl (Nat.le_of_ble_eq_true rfl) rfl rfl (C248 (by omega) hv3) ?_
  refine g_go 6 md_251 (i1 := 1312) (ls1 := [some (.ref 1000000), some (.ref 0), some (.ref 199), some (.ref 564), some (.int x4), some (.int v3), u6]) rfl ?_
  refine n_scr (n_q md_251 rfl) h1 ?_
  refine g_go 4 md_251 (i1 := 1317) rfl ?_
  refine n_scr (n_q md_251 rfl) h2 ?_
  obtain ⟨v6, s7, hv6, H⟩ := g_bdp H
  refine n_callv (n_q md_251 rfl) (As := [.ref 199, .int (X.2 (x4 + 1).toNatClampNeg), .int (X.2 (x4 + 2).toNatClampNeg)]) (rest := []) rfl rfl (Nat.le_of_ble_eq_true rfl) rfl (g_recv (b := 0) rfl t_199 rfl) (C212 (by omega) hv6) ?_
  refine g_go 2 md_251 (i1 := 1321) (ls1 := [some (.ref 1000000), some (.ref 0), some (.ref 199), some (.ref 564), some (.int x4), some (.int v3), some (.int v6)]) rfl ?_
  obtain ⟨v8, hv8, H⟩ := g_bind H
  refine n_callv (n_q md_251 rfl) (As := [.ref 199]) (rest := []) rfl rfl (Nat.le_of_ble_eq_true rfl) rfl (g_recv (b := 0) rfl t_199 rfl) (C133 (by omega) hv8) ?_
  refine g_go 1 md_251 (i1 := 1323) rfl ?_
  by_cases h9 : v8 = v3
  · rw [if_pos h9] at H
    refine n_cmpT (n_q md_251 rfl) (decide_eq_true h9) ?_
    refine g_go 1 md_251 (i1 := 1327) rfl ?_
    by_cases h10 : v3 = 0
    · rw [if_pos h10] at H
      refine n_ifF (n_q md_251 rfl) (fun e1 => of_decide_eq_true e1 h10) ?_
      refine g_go 2 md_251 (i1 := 1330) rfl ?_
      refine g_lald (n_q md_251 rfl) ?_
      refine g_go 2 md_251 (i1 := 1333) rfl ?_
      refine n_go (n_q md_251 rfl) (fun _ => rfl) ?_
      by_cases h11 : (lg_cmp ((s7 564 0).toInt64) v6.toInt64) = 0
      · rw [if_pos h11] at H
        refine n_ifT (n_q md_251 rfl) (decide_eq_true h11) ?_
        refine g_go 3 md_251 (i1 := 13) (ls1 := [some (.ref 1000000), some (.ref 0), some (.ref 199), some (.ref 564), some (.int (x4 + 7)), some (.int v3), some (.int v6)]) rfl ?_
        cases H
        exact K0 (x4 + 7, (s7, ex + k5)) rfl _ _
      · rw [if_neg h11] at H
        refine n_ifF (n_q md_251 rfl) (fun e1 => h11 (of_decide_eq_true e1)) ?_
        refine g_go 1 md_251 (i1 := 1336) rfl ?_
        cases H
        rw [← Kr _ rfl]
        exact n_iret (n_q md_251 rfl) (Or.inr rfl)
    · rw [if_neg h10] at H
      refine n_ifT (n_q md_251 rfl) (decide_eq_true h10) ?_
      refine g_go 3 md_251 (i1 := 13) (ls1 := [some (.ref 1000000), some (.ref 0), some (.ref 199), some (.ref 564), some (.int (x4 + 7)), some (.int v3), some (.int v6)]) rfl ?_
      cases H
      exact K0 (x4 + 7, (s7, ex + k5)) rfl _ _
  · rw [if_neg h9] at H
    refine n_cmpF (n_q md_251 rfl) (fun e1 => h9 (of_decide_eq_true e1)) ?_
    refine g_go 1 md_251 (i1 := 1325) rfl ?_
    cases H
    rw [← Kr _ rfl]
    exact n_iret (n_q md_251 rfl) (Or.inr rfl)
noncomputable def f251_1338 (X : m_X) (s : g_S) (ex : Nat) (x4 : Int32) : Option ((Int32 × (g_S × Nat)) ⊕ (Int32 × (g_S × Nat))) := (g_bd (f110 s) fun v1 s2 => g_bd (f213 s2) fun v3 s4 => if v1 = v3 then (some (.inl (x4 + 7, (s4, ex)))) else (some (.inr (0, (s4, ex)))))
set_option maxHeartbeats 10000000 in
set_option maxRecDepth 100000 in
theorem P251_1338 {d ex : Nat} {rr : m_R} {s : g_S} {x4 : Int32} {u5 u6 : Option Value} {z : (Int32 × (g_S × Nat)) ⊕ (Int32 × (g_S × Nat))} (H : f251_1338 X s ex x4 = some z) (hd : 86 ≤ d) (K0 : ∀ S : Int32 × (g_S × Nat), z = .inl S → ∀ u5 u6 : Option Value, n_R X (d + 1) 251 13 [some (.ref 1000000), some (.ref 0), some (.ref 199), some (.ref 564), some (.int S.1), u5, u6] [] (g_M S.2.1 S.2.2) rr) (Kr : ∀ q, z = .inr q → g_rL q = rr) : n_R X (d + 1) 251 1338 [some (.ref 1000000), some (.ref 0), some (.ref 199), some (.ref 564), some (.int x4), u5, u6] [] (g_M s ex) rr := by
  unfold f251_1338 at H
  refine g_go 1 md_251 (i1 := 1339) rfl ?_
  obtain ⟨v1, s2, hv1, H⟩ := g_bdp H
  refine n_callv (n_q md_251 rfl) (As := [.ref 0]) (rest := []) rfl rfl (Nat.le_of_ble_eq_true rfl) rfl (g_recv (b := 0) rfl t_0 rfl) (C110 (by omega) hv1) ?_
  refine g_go 1 md_251 (i1 := 1341) rfl ?_
  obtain ⟨v3, s4, hv3, H⟩ := g_bdp H
  refine n_callv (n_q md_251 rfl) (As := [.ref 199]) (rest := [.int v1]) rfl rfl (Nat.le_of_ble_eq_true rfl) rfl (g_recv (b := 0) rfl t_199 rfl) (C213 (by omega) hv3) ?_
  by_cases h5 : v1 = v3
  · rw [if_pos h5] at H
    refine n_cmpT (n_q md_251 rfl) (decide_eq_true h5) ?_
    refine g_go 2 md_251 (i1 := 13) (ls1 := [some (.ref 1000000), some (.ref 0), some (.ref 199), some (.ref 564), some (.int (x4 + 7)), u5, u6]) rfl ?_
    cases H
    exact K0 (x4 + 7, (s4, ex)) rfl _ _
  · rw [if_neg h5] at H
    refine n_cmpF (n_q md_251 rfl) (fun e1 => h5 (of_decide_eq_true e1)) ?_
    refine g_go 1 md_251 (i1 := 1344) rfl ?_
    cases H
    rw [← Kr _ rfl]
    exact n_iret (n_q md_251 rfl) (Or.inr rfl)
noncomputable def f251_1345 (X : m_X) (s : g_S) (ex : Nat) (x4 : Int32) : Option ((Int32 × (g_S × Nat)) ⊕ (Int32 × (g_S × Nat))) := (if m_in (x4 + 1) X.1 = true then if m_in (x4 + 2) X.1 = true then g_wd (f249 s (X.2 (x4 + 1).toNatClampNeg) (X.2 (x4 + 2).toNatClampNeg)) fun v3 k5 s4 => g_bd (f215 s4 (X.2 (x4 + 1).toNatClampNeg) (X.2 (x4 + 2).toNatClampNeg)) fun v6 s7 => (f133 s7).bind fun v8 => if v8 = v3 then (if v3 = 0 then (if (lg_cmp ((s7 564 0).toInt64) v6.toInt64) = 0 then (some (.inl (x4 + 7, (s7, ex + k5)))) else (some (.inr (0, (s7, ex + k5))))) else (some (.inl (x4 + 7, (s7, ex + k5))))) else (some (.inr (0, (s7, ex + k5)))) else none else none)
set_option maxHeartbeats 10000000 in
set_option maxRecDepth 100000 in
theorem P251_1345 {d ex : Nat} {rr : m_R} {s : g_S} {x4 : Int32} {u5 u6 : Option Value} {z : (Int32 × (g_S × Nat)) ⊕ (Int32 × (g_S × Nat))} (H : f251_1345 X s ex x4 = some z) (hd : 86 ≤ d) (K0 : ∀ S : Int32 × (g_S × Nat), z = .inl S → ∀ u5 u6 : Option Value, n_R X (d + 1) 251 13 [some (.ref 1000000), some (.ref 0), some (.ref 199), some (.ref 564), some (.int S.1), u5, u6] [] (g_M S.2.1 S.2.2) rr) (Kr : ∀ q, z = .inr q → g_rL q = rr) : n_R X (d + 1) 251 1345 [some (.ref 1000000), some (.ref 0), some (.ref 199), some (.ref 564), some (.int x4), u5, u6] [] (g_M s ex) rr := by
  unfold f251_1345 at H
  refine g_go 5 md_251 (i1 := 1350) rfl ?_
  obtain ⟨h1, H⟩ := g_gd H
  refine n_scr (n_q md_251 rfl) h1 ?_
  refine g_go 4 md_251 (i1 := 1355) rfl ?_
  obtain ⟨h2, H⟩ := g_gd H
  refine n_scr (n_q md_251 rfl) h2 ?_
  refine g_go 1 md_251 (i1 := 1357) rfl ?_
  obtain ⟨v3, k5, s4, hv3, H⟩ := g_wdp H
  refine n_callv (n_q md_251 rfl) (As := [.ref 0, .int (X.2 (x4 + 1).toNatClampNeg), .int (X.2 (x4 + 2).toNatClampNeg), .ref 564]) (rest := []) rfl rfl (Nat.le_of_ble_eq_true rfl) rfl rfl (C249 (by omega) hv3) ?_
  refine g_go 6 md_251 (i1 := 1364) (ls1 := [some (.ref 1000000), some (.ref 0), some (.ref 199), some (.ref 564), some (.int x4), some (.int v3), u6]) rfl ?_
  refine n_scr (n_q md_251 rfl) h1 ?_
  refine g_go 4 md_251 (i1 := 1369) rfl ?_
  refine n_scr (n_q md_251 rfl) h2 ?_
  obtain ⟨v6, s7, hv6, H⟩ := g_bdp H
  refine n_callv (n_q md_251 rfl) (As := [.ref 199, .int (X.2 (x4 + 1).toNatClampNeg), .int (X.2 (x4 + 2).toNatClampNeg)]) (rest := []) rfl rfl (Nat.le_of_ble_eq_true rfl) rfl (g_recv (b := 0) rfl t_199 rfl) (C215 (by omega) hv6) ?_
  refine g_go 2 md_251 (i1 := 1373) (ls1 := [some (.ref 1000000), some (.ref 0), some (.ref 199), some (.ref 564), some (.int x4), some (.int v3), some (.int v6)]) rfl ?_
  obtain ⟨v8, hv8, H⟩ := g_bind H
  refine n_callv (n_q md_251 rfl) (As := [.ref 199]) (rest := []) rfl rfl (Nat.le_of_ble_eq_true rfl) rfl (g_recv (b := 0) rfl t_199 rfl) (C133 (by omega) hv8) ?_
  refine g_go 1 md_251 (i1 := 1375) rfl ?_
  by_cases h9 : v8 = v3
  · rw [if_pos h9] at H
    refine n_cmpT (n_q md_251 rfl) (decide_eq_true h9) ?_
    refine g_go 1 md_251 (i1 := 1379) rfl ?_
    by_cases h10 : v3 = 0
    · rw [if_pos h10] at H
      refine n_ifF (n_q md_251 rfl) (fun e1 => of_decide_eq_true e1 h10) ?_
      refine g_go 2 md_251 (i1 := 1382) rfl ?_
      refine g_lald (n_q md_251 rfl) ?_
      refine g_go 2 md_251 (i1 := 1385) rfl ?_
      refine n_go (n_q md_251 rfl) (fun _ => rfl) ?_
      by_cases h11 : (lg_cmp ((s7 564 0).toInt64) v6.toInt64) = 0
      · rw [if_pos h11] at H
        refine n_ifT (n_q md_251 rfl) (decide_eq_true h11) ?_
        refine g_go 3 md_251 (i1 := 13) (ls1 := [some (.ref 1000000), some (.ref 0), some (.ref 199), some (.ref 564), some (.int (x4 + 7)), some (.int v3), some (.int v6)]) rfl ?_
        cases H
        exact K0 (x4 + 7, (s7, ex + k5)) rfl _ _
      · rw [if_neg h11] at H
        refine n_ifF (n_q md_251 rfl) (fun e1 => h11 (of_decide_eq_true e1)) ?_
        refine g_go 1 md_251 (i1 := 1388) rfl ?_
        cases H
        rw [← Kr _ rfl]
        exact n_iret (n_q md_251 rfl) (Or.inr rfl)
    · rw [if_neg h10] at H
      refine n_ifT (n_q md_251 rfl) (decide_eq_true h10) ?_
      refine g_go 3 md_251 (i1 := 13) (ls1 := [some (.ref 1000000), some (.ref 0), some (.ref 199), some (.ref 564), some (.int (x4 + 7)), some (.int v3), some (.int v6)]) rfl ?_
      cases H
      exact K0 (x4 + 7, (s7, ex + k5)) rfl _ _
  · rw [if_neg h9] at H
    refine n_cmpF (n_q md_251 rfl) (fun e1 => h9 (of_decide_eq_true e1)) ?_
    refine g_go 1 md_251 (i1 := 1377) rfl ?_
    cases H
    rw [← Kr _ rfl]
    exact n_iret (n_q md_251 rfl) (Or.inr rfl)
noncomputable def f251_1390 (X : m_X) (s : g_S) (ex : Nat) (x4 : Int32) : Option ((Int32 × (g_S × Nat)) ⊕ (Int32 × (g_S × Nat))) := (if m_in (x4 + 1) X.1 = true then if m_in (x4 + 2) X.1 = true then g_wd (f250 s (X.2 (x4 + 1).toNatClampNeg) (X.2 (x4 + 2).toNatClampNeg)) fun v3 k5 s4 => g_bd (f216 s4 (X.2 (x4 + 1).toNatClampNeg) (X.2 (x4 + 2).toNatClampNeg)) fun v6 s7 => (f133 s7).bind fun v8 => if v8 = v3 then (if v3 = 0 then (if (lg_cmp ((s7 564 0).toInt64) v6.toInt64) = 0 then (some (.inl (x4 + 7, (s7, ex + k5)))) else (some (.inr (0, (s7, ex + k5))))) else (some (.inl (x4 + 7, (s7, ex + k5))))) else (some (.inr (0, (s7, ex + k5)))) else none else none)
set_option maxHeartbeats 10000000 in
set_option maxRecDepth 100000 in
theorem P251_1390 {d ex : Nat} {rr : m_R} {s : g_S} {x4 : Int32} {u5 u6 : Option Value} {z : (Int32 × (g_S × Nat)) ⊕ (Int32 × (g_S × Nat))} (H : f251_1390 X s ex x4 = some z) (hd : 86 ≤ d) (K0 : ∀ S : Int32 × (g_S × Nat), z = .inl S → ∀ u5 u6 : Option Value, n_R X (d + 1) 251 13 [some (.ref 1000000), some (.ref 0), some (.ref 199), some (.ref 564), some (.int S.1), u5, u6] [] (g_M S.2.1 S.2.2) rr) (Kr : ∀ q, z = .inr q → g_rL q = rr) : n_R X (d + 1) 251 1390 [some (.ref 1000000), some (.ref 0), some (.ref 199), some (.ref 564), some (.int x4), u5, u6] [] (g_M s ex) rr := by
  unfold f251_1390 at H
  refine g_go 5 md_251 (i1 := 1395) rfl ?_
  obtain ⟨h1, H⟩ := g_gd H
  refine n_scr (n_q md_251 rfl) h1 ?_
  refine g_go 4 md_251 (i1 := 1400) rfl ?_
  obtain ⟨h2, H⟩ := g_gd H
  refine n_scr (n_q md_251 rfl) h2 ?_
  refine g_go 1 md_251 (i1 := 1402) rfl ?_
  obtain ⟨v3, k5, s4, hv3, H⟩ := g_wdp H
  refine n_callv (n_q md_251 rfl) (As := [.ref 0, .int (X.2 (x4 + 1).toNatClampNeg), .int (X.2 (x4 + 2).toNatClampNeg), .ref 564]) (rest := []) rfl rfl (Nat.le_of_ble_eq_true rfl) rfl rfl (C250 (by omega) hv3) ?_
  refine g_go 6 md_251 (i1 := 1409) (ls1 := [some (.ref 1000000), some (.ref 0), some (.ref 199), some (.ref 564), some (.int x4), some (.int v3), u6]) rfl ?_
  refine n_scr (n_q md_251 rfl) h1 ?_
  refine g_go 4 md_251 (i1 := 1414) rfl ?_
  refine n_scr (n_q md_251 rfl) h2 ?_
  obtain ⟨v6, s7, hv6, H⟩ := g_bdp H
  refine n_callv (n_q md_251 rfl) (As := [.ref 199, .int (X.2 (x4 + 1).toNatClampNeg), .int (X.2 (x4 + 2).toNatClampNeg)]) (rest := []) rfl rfl (Nat.le_of_ble_eq_true rfl) rfl (g_recv (b := 0) rfl t_199 rfl) (C216 (by omega) hv6) ?_
  refine g_go 2 md_251 (i1 := 1418) (ls1 := [some (.ref 1000000), some (.ref 0), some (.ref 199), some (.ref 564), some (.int x4), some (.int v3), some (.int v6)]) rfl ?_
  obtain ⟨v8, hv8, H⟩ := g_bind H
  refine n_callv (n_q md_251 rfl) (As := [.ref 199]) (rest := []) rfl rfl (Nat.le_of_ble_eq_true rfl) rfl (g_recv (b := 0) rfl t_199 rfl) (C133 (by omega) hv8) ?_
  refine g_go 1 md_251 (i1 := 1420) rfl ?_
  by_cases h9 : v8 = v3
  · rw [if_pos h9] at H
    refine n_cmpT (n_q md_251 rfl) (decide_eq_true h9) ?_
    refine g_go 1 md_251 (i1 := 1424) rfl ?_
    by_cases h10 : v3 = 0
    · rw [if_pos h10] at H
      refine n_ifF (n_q md_251 rfl) (fun e1 => of_decide_eq_true e1 h10) ?_
      refine g_go 2 md_251 (i1 := 1427) rfl ?_
      refine g_lald (n_q md_251 rfl) ?_
      refine g_go 2 md_251 (i1 := 1430) rfl ?_
      refine n_go (n_q md_251 rfl) (fun _ => rfl) ?_
      by_cases h11 : (lg_cmp ((s7 564 0).toInt64) v6.toInt64) = 0
      · rw [if_pos h11] at H
        refine n_ifT (n_q md_251 rfl) (decide_eq_true h11) ?_
        refine g_go 3 md_251 (i1 := 13) (ls1 := [some (.ref 1000000), some (.ref 0), some (.ref 199), some (.ref 564), some (.int (x4 + 7)), some (.int v3), some (.int v6)]) rfl ?_
        cases H
        exact K0 (x4 + 7, (s7, ex + k5)) rfl _ _
      · rw [if_neg h11] at H
        refine n_ifF (n_q md_251 rfl) (fun e1 => h11 (of_decide_eq_true e1)) ?_
        refine g_go 1 md_251 (i1 := 1433) rfl ?_
        cases H
        rw [← Kr _ rfl]
        exact n_iret (n_q md_251 rfl) (Or.inr rfl)
    · rw [if_neg h10] at H
      refine n_ifT (n_q md_251 rfl) (decide_eq_true h10) ?_
      refine g_go 3 md_251 (i1 := 13) (ls1 := [some (.ref 1000000), some (.ref 0), some (.ref 199), some (.ref 564), some (.int (x4 + 7)), some (.int v3), some (.int v6)]) rfl ?_
      cases H
      exact K0 (x4 + 7, (s7, ex + k5)) rfl _ _
  · rw [if_neg h9] at H
    refine n_cmpF (n_q md_251 rfl) (fun e1 => h9 (of_decide_eq_true e1)) ?_
    refine g_go 1 md_251 (i1 := 1422) rfl ?_
    cases H
    rw [← Kr _ rfl]
    exact n_iret (n_q md_251 rfl) (Or.inr rfl)
noncomputable def f251_1435 (X : m_X) (s : g_S) (ex : Nat) (x4 : Int32) : Option ((Int32 × (g_S × Nat)) ⊕ (Int32 × (g_S × Nat))) := (g_bd (f113 s) fun v1 s2 => g_bd (f219 s2) fun v3 s4 => if v1 = v3 then (some (.inl (x4 + 7, (s4, ex)))) else (some (.inr (0, (s4, ex)))))
set_option maxHeartbeats 10000000 in
set_option maxRecDepth 100000 in
theorem P251_1435 {d ex : Nat} {rr : m_R} {s : g_S} {x4 : Int32} {u5 u6 : Option Value} {z : (Int32 × (g_S × Nat)) ⊕ (Int32 × (g_S × Nat))} (H : f251_1435 X s ex x4 = some z) (hd : 86 ≤ d) (K0 : ∀ S : Int32 × (g_S × Nat), z = .inl S → ∀ u5 u6 : Option Value, n_R X (d + 1) 251 13 [some (.ref 1000000), some (.ref 0), some (.ref 199), some (.ref 564), some (.int S.1), u5, u6] [] (g_M S.2.1 S.2.2) rr) (Kr : ∀ q, z = .inr q → g_rL q = rr) : n_R X (d + 1) 251 1435 [some (.ref 1000000), some (.ref 0), some (.ref 199), some (.ref 564), some (.int x4), u5, u6] [] (g_M s ex) rr := by
  unfold f251_1435 at H
  refine g_go 1 md_251 (i1 := 1436) rfl ?_
  obtain ⟨v1, s2, hv1, H⟩ := g_bdp H
  refine n_callv (n_q md_251 rfl) (As := [.ref 0]) (rest := []) rfl rfl (Nat.le_of_ble_eq_true rfl) rfl (g_recv (b := 0) rfl t_0 rfl) (C113 (by omega) hv1) ?_
  refine g_go 1 md_251 (i1 := 1438) rfl ?_
  obtain ⟨v3, s4, hv3, H⟩ := g_bdp H
  refine n_callv (n_q md_251 rfl) (As := [.ref 199]) (rest := [.int v1]) rfl rfl (Nat.le_of_ble_eq_true rfl) rfl (g_recv (b := 0) rfl t_199 rfl) (C219 (by omega) hv3) ?_
  by_cases h5 : v1 = v3
  · rw [if_pos h5] at H
    refine n_cmpT (n_q md_251 rfl) (decide_eq_true h5) ?_
    refine g_go 2 md_251 (i1 := 13) (ls1 := [some (.ref 1000000), some (.ref 0), some (.ref 199), some (.ref 564), some (.int (x4 + 7)), u5, u6]) rfl ?_
    cases H
    exact K0 (x4 + 7, (s4, ex)) rfl _ _
  · rw [if_neg h5] at H
    refine n_cmpF (n_q md_251 rfl) (fun e1 => h5 (of_decide_eq_true e1)) ?_
    refine g_go 1 md_251 (i1 := 1441) rfl ?_
    cases H
    rw [← Kr _ rfl]
    exact n_iret (n_q md_251 rfl) (Or.inr rfl)
noncomputable def f251_1442 (X : m_X) (s : g_S) (ex : Nat) (x4 : Int32) : Option ((Int32 × (g_S × Nat)) ⊕ (Int32 × (g_S × Nat))) := (g_bd (f114 s) fun v1 s2 => g_bd (f220 s2) fun v3 s4 => if v1 = v3 then (some (.inl (x4 + 7, (s4, ex)))) else (some (.inr (0, (s4, ex)))))
set_option maxHeartbeats 10000000 in
set_option maxRecDepth 100000 in
theorem P251_1442 {d ex : Nat} {rr : m_R} {s : g_S} {x4 : Int32} {u5 u6 : Option Value} {z : (Int32 × (g_S × Nat)) ⊕ (Int32 × (g_S × Nat))} (H : f251_1442 X s ex x4 = some z) (hd : 86 ≤ d) (K0 : ∀ S : Int32 × (g_S × Nat), z = .inl S → ∀ u5 u6 : Option Value, n_R X (d + 1) 251 13 [some (.ref 1000000), some (.ref 0), some (.ref 199), some (.ref 564), some (.int S.1), u5, u6] [] (g_M S.2.1 S.2.2) rr) (Kr : ∀ q, z = .inr q → g_rL q = rr) : n_R X (d + 1) 251 1442 [some (.ref 1000000), some (.ref 0), some (.ref 199), some (.ref 564), some (.int x4), u5, u6] [] (g_M s ex) rr := by
  unfold f251_1442 at H
  refine g_go 1 md_251 (i1 := 1443) rfl ?_
  obtain ⟨v1, s2, hv1, H⟩ := g_bdp H
  refine n_callv (n_q md_251 rfl) (As := [.ref 0]) (rest := []) rfl rfl (Nat.le_of_ble_eq_true rfl) rfl (g_recv (b := 0) rfl t_0 rfl) (C114 (by omega) hv1) ?_
  refine g_go 1 md_251 (i1 := 1445) rfl ?_
  obtain ⟨v3, s4, hv3, H⟩ := g_bdp H
  refine n_callv (n_q md_251 rfl) (As := [.ref 199]) (rest := [.int v1]) rfl rfl (Nat.le_of_ble_eq_true rfl) rfl (g_recv (b := 0) rfl t_199 rfl) (C220 (by omega) hv3) ?_
  by_cases h5 : v1 = v3
  · rw [if_pos h5] at H
    refine n_cmpT (n_q md_251 rfl) (decide_eq_true h5) ?_
    refine g_go 2 md_251 (i1 := 13) (ls1 := [some (.ref 1000000), some (.ref 0), some (.ref 199), some (.ref 564), some (.int (x4 + 7)), u5, u6]) rfl ?_
    cases H
    exact K0 (x4 + 7, (s4, ex)) rfl _ _
  · rw [if_neg h5] at H
    refine n_cmpF (n_q md_251 rfl) (fun e1 => h5 (of_decide_eq_true e1)) ?_
    refine g_go 1 md_251 (i1 := 1448) rfl ?_
    cases H
    rw [← Kr _ rfl]
    exact n_iret (n_q md_251 rfl) (Or.inr rfl)
noncomputable def f251_1449 (X : m_X) (s : g_S) (ex : Nat) (x4 : Int32) : Option ((Int32 × (g_S × Nat)) ⊕ (Int32 × (g_S × Nat))) := (if m_in (x4 + 1) X.1 = true then (f115 s (X.2 (x4 + 1).toNatClampNeg)).bind fun v2 => g_bd (f221 s (X.2 (x4 + 1).toNatClampNeg)) fun v3 s4 => if v2 = v3 then (some (.inl (x4 + 7, (s4, ex)))) else (some (.inr (0, (s4, ex)))) else none)
set_option maxHeartbeats 10000000 in
set_option maxRecDepth 100000 in
theorem P251_1449 {d ex : Nat} {rr : m_R} {s : g_S} {x4 : Int32} {u5 u6 : Option Value} {z : (Int32 × (g_S × Nat)) ⊕ (Int32 × (g_S × Nat))} (H : f251_1449 X s ex x4 = some z) (hd : 86 ≤ d) (K0 : ∀ S : Int32 × (g_S × Nat), z = .inl S → ∀ u5 u6 : Option Value, n_R X (d + 1) 251 13 [some (.ref 1000000), some (.ref 0), some (.ref 199), some (.ref 564), some (.int S.1), u5, u6] [] (g_M S.2.1 S.2.2) rr) (Kr : ∀ q, z = .inr q → g_rL q = rr) : n_R X (d + 1) 251 1449 [some (.ref 1000000), some (.ref 0), some (.ref 199), some (.ref 564), some (.int x4), u5, u6] [] (g_M s ex) rr := by
  unfold f251_1449 at H
  refine g_go 5 md_251 (i1 := 1454) rfl ?_
  obtain ⟨h1, H⟩ := g_gd H
  refine n_scr (n_q md_251 rfl) h1 ?_
  obtain ⟨v2, hv2, H⟩ := g_bind H
  refine n_callv (n_q md_251 rfl) (As := [.ref 0, .int (X.2 (x4 + 1).toNatClampNeg)]) (rest := []) rfl rfl (Nat.le_of_ble_eq_true rfl) rfl (g_recv (b := 0) rfl t_0 rfl) (C115 (by omega) hv2) ?_
  refine g_go 5 md_251 (i1 := 1461) rfl ?_
  refine n_scr (n_q md_251 rfl) h1 ?_
  obtain ⟨v3, s4, hv3, H⟩ := g_bdp H
  refine n_callv (n_q md_251 rfl) (As := [.ref 199, .int (X.2 (x4 + 1).toNatClampNeg)]) (rest := [.int v2]) rfl rfl (Nat.le_of_ble_eq_true rfl) rfl (g_recv (b := 0) rfl t_199 rfl) (C221 (by omega) hv3) ?_
  by_cases h5 : v2 = v3
  · rw [if_pos h5] at H
    refine n_cmpT (n_q md_251 rfl) (decide_eq_true h5) ?_
    refine g_go 2 md_251 (i1 := 13) (ls1 := [some (.ref 1000000), some (.ref 0), some (.ref 199), some (.ref 564), some (.int (x4 + 7)), u5, u6]) rfl ?_
    cases H
    exact K0 (x4 + 7, (s4, ex)) rfl _ _
  · rw [if_neg h5] at H
    refine n_cmpF (n_q md_251 rfl) (fun e1 => h5 (of_decide_eq_true e1)) ?_
    refine g_go 1 md_251 (i1 := 1465) rfl ?_
    cases H
    rw [← Kr _ rfl]
    exact n_iret (n_q md_251 rfl) (Or.inr rfl)
noncomputable def f251 (X : m_X) (s : g_S) (ex : Nat) (x4 : Int32) : Option ((Int32 × (g_S × Nat)) ⊕ (Int32 × (g_S × Nat))) := (if ((Int32.ofNat X.1) - 7) < x4 then (some (.inr (1, (s, ex)))) else (if m_in x4 X.1 = true then (if ((X.2 x4.toNatClampNeg) &&& 63) = 0 then (f251_25 X s ex x4) else (if ((X.2 x4.toNatClampNeg) &&& 63) = 1 then (f251_82 X s ex x4) else (if ((X.2 x4.toNatClampNeg) &&& 63) = 2 then (f251_117 X s ex x4) else (if ((X.2 x4.toNatClampNeg) &&& 63) = 3 then (f251_124 X s ex x4) else (if ((X.2 x4.toNatClampNeg) &&& 63) = 4 then (f251_159 X s ex x4) else (if ((X.2 x4.toNatClampNeg) &&& 63) = 5 then (f251_244 X s ex x4) else (if ((X.2 x4.toNatClampNeg) &&& 63) = 6 then (f251_302 X s ex x4) else (if ((X.2 x4.toNatClampNeg) &&& 63) = 7 then (f251_385 X s ex x4) else (if ((X.2 x4.toNatClampNeg) &&& 63) = 8 then (f251_430 X s ex x4) else (if ((X.2 x4.toNatClampNeg) &&& 63) = 9 then (f251_465 X s ex x4) else (if ((X.2 x4.toNatClampNeg) &&& 63) = 10 then (f251_510 X s ex x4) else (if ((X.2 x4.toNatClampNeg) &&& 63) = 11 then (f251_576 X s ex x4) else (if ((X.2 x4.toNatClampNeg) &&& 63) = 12 then (f251_621 X s ex x4) else (if ((X.2 x4.toNatClampNeg) &&& 63) = 13 then (f251_628 X s ex x4) else (if ((X.2 x4.toNatClampNeg) &&& 63) = 14 then (f251_673 X s ex x4) else (if ((X.2 x4.toNatClampNeg) &&& 63) = 15 then (f251_708 X s ex x4) else (if ((X.2 x4.toNatClampNeg) &&& 63) = 16 then (f251_743 X s ex x4) else (if ((X.2 x4.toNatClampNeg) &&& 63) = 17 then (f251_778 X s ex x4) else (if ((X.2 x4.toNatClampNeg) &&& 63) = 18 then (f251_813 X s ex x4) else (if ((X.2 x4.toNatClampNeg) &&& 63) = 19 then (f251_851 X s ex x4) else (if ((X.2 x4.toNatClampNeg) &&& 63) = 20 then (f251_886 X s ex x4) else (if ((X.2 x4.toNatClampNeg) &&& 63) = 21 then (f251_941 X s ex x4) else (if ((X.2 x4.toNatClampNeg) &&& 63) = 22 then (f251_986 X s ex x4) else (if ((X.2 x4.toNatClampNeg) &&& 63) = 23 then (f251_1021 X s ex x4) else (if ((X.2 x4.toNatClampNeg) &&& 63) = 24 then (f251_1056 X s ex x4) else (if ((X.2 x4.toNatClampNeg) &&& 63) = 25 then (f251_1091 X s ex x4) else (if ((X.2 x4.toNatClampNeg) &&& 63) = 26 then (f251_1098 X s ex x4) else (if ((X.2 x4.toNatClampNeg) &&& 63) = 27 then (f251_1151 X s ex x4) else (if ((X.2 x4.toNatClampNeg) &&& 63) = 28 then (f251_1158 X s ex x4) else (if ((X.2 x4.toNatClampNeg) &&& 63) = 29 then (f251_1203 X s ex x4) else (if ((X.2 x4.toNatClampNeg) &&& 63) = 30 then (f251_1248 X s ex x4) else (if ((X.2 x4.toNatClampNeg) &&& 63) = 31 then (f251_1293 X s ex x4) else (if ((X.2 x4.toNatClampNeg) &&& 63) = 32 then (f251_1338 X s ex x4) else (if ((X.2 x4.toNatClampNeg) &&& 63) = 33 then (f251_1345 X s ex x4) else (if ((X.2 x4.toNatClampNeg) &&& 63) = 34 then (f251_1390 X s ex x4) else (if ((X.2 x4.toNatClampNeg) &&& 63) = 35 then (f251_1435 X s ex x4) else (if ((X.2 x4.toNatClampNeg) &&& 63) = 36 then (f251_1442 X s ex x4) else (if ((X.2 x4.toNatClampNeg) &&& 63) = 37 then (f251_1449 X s ex x4) else (some (.inl (x4 + 7, (s, ex)))))))))))))))))))))))))))))))))))))))))) else none))
set_option maxHeartbeats 10000000 in
set_option maxRecDepth 100000 in
theorem P251 {d ex : Nat} {rr : m_R} {s : g_S} {x4 : Int32} {u5 u6 : Option Value} {z : (Int32 × (g_S × Nat)) ⊕ (Int32 × (g_S × Nat))} (H : f251 X s ex x4 = some z) (hd : 86 ≤ d) (K0 : ∀ S : Int32 × (g_S × Nat), z = .inl S → ∀ u5 u6 : Option Value, n_R X (d + 1) 251 13 [some (.ref 1000000), some (.ref 0), some (.ref 199), some (.ref 564), some (.int S.1), u5, u6] [] (g_M S.2.1 S.2.2) rr) (Kr : ∀ q, z = .inr q → g_rL q = rr) : n_R X (d + 1) 251 13 [some (.ref 1000000), some (.ref 0), some (.ref 199), some (.ref 564), some (.int x4), u5, u6] [] (g_M s ex) rr := by
  unfold f251 at H
  refine g_go 2 md_251 (i1 := 15) rfl ?_
  refine n_scl (n_q md_251 rfl) ?_
  refine g_go 2 md_251 (i1 := 18) rfl ?_
  by_cases h1 : ((Int32.ofNat X.1) - 7) < x4
  · rw [if_pos h1] at H
    refine n_cmpT (n_q md_251 rfl) (decide_eq_true h1) ?_
    refine g_go 1 md_251 (i1 := 1469) rfl ?_
    cases H
    rw [← Kr _ rfl]
    exact n_iret (n_q md_251 rfl) (Or.inr rfl)
  · rw [if_neg h1] at H
    refine n_cmpF (n_q md_251 rfl) (fun e1 => h1 (of_decide_eq_true e1)) ?_
    refine g_go 2 md_251 (i1 := 21) rfl ?_
    obtain ⟨h2, H⟩ := g_gd H
    refine n_scr (n_q md_251 rfl) h2 ?_
    refine g_go 2 md_251 (i1 := 24) rfl ?_
    refine n_sw (n_q md_251 rfl) ?_
    unfold m_sw
    by_cases h3 : ((X.2 x4.toNatClampNeg) &&& 63) = 0
    · rw [if_pos h3] at H ⊢
      exact P251_25 H hd K0 Kr
    · rw [if_neg h3] at H ⊢
      unfold m_sw
      by_cases h4 : ((X.2 x4.toNatClampNeg) &&& 63) = 1
      · rw [if_pos h4] at H ⊢
        exact P251_82 H hd K0 Kr
      · rw [if_neg h4] at H ⊢
        unfold m_sw
        by_cases h5 : ((X.2 x4.toNatClampNeg) &&& 63) = 2
        · rw [if_pos h5] at H ⊢
          exact P251_117 H hd K0 Kr
        · rw [if_neg h5] at H ⊢
          unfold m_sw
          by_cases h6 : ((X.2 x4.toNatClampNeg) &&& 63) = 3
          · rw [if_pos h6] at H ⊢
            exact P251_124 H hd K0 Kr
          · rw [if_neg h6] at H ⊢
            unfold m_sw
            by_cases h7 : ((X.2 x4.toNatClampNeg) &&& 63) = 4
            · rw [if_pos h7] at H ⊢
              exact P251_159 H hd K0 Kr
            · rw [if_neg h7] at H ⊢
              unfold m_sw
              by_cases h8 : ((X.2 x4.toNatClampNeg) &&& 63) = 5
              · rw [if_pos h8] at H ⊢
                exact P251_244 H hd K0 Kr
              · rw [if_neg h8] at H ⊢
                unfold m_sw
                by_cases h9 : ((X.2 x4.toNatClampNeg) &&& 63) = 6
                · rw [if_pos h9] at H ⊢
                  exact P251_302 H hd K0 Kr
                · rw [if_neg h9] at H ⊢
                  unfold m_sw
                  by_cases h10 : ((X.2 x4.toNatClampNeg) &&& 63) = 7
                  · rw [if_pos h10] at H ⊢
                    exact P251_385 H hd K0 Kr
                  · rw [if_neg h10] at H ⊢
                    unfold m_sw
                    by_cases h11 : ((X.2 x4.toNatClampNeg) &&& 63) = 8
                    · rw [if_pos h11] at H ⊢
                      exact P251_430 H hd K0 Kr
                    · rw [if_neg h11] at H ⊢
                      unfold m_sw
                      by_cases h12 : ((X.2 x4.toNatClampNeg) &&& 63) = 9
                      · rw [if_pos h12] at H ⊢
                        exact P251_465 H hd K0 Kr
                      · rw [if_neg h12] at H ⊢
                        unfold m_sw
                        by_cases h13 : ((X.2 x4.toNatClampNeg) &&& 63) = 10
                        · rw [if_pos h13] at H ⊢
                          exact P251_510 H hd K0 Kr
                        · rw [if_neg h13] at H ⊢
                          unfold m_sw
                          by_cases h14 : ((X.2 x4.toNatClampNeg) &&& 63) = 11
                          · rw [if_pos h14] at H ⊢
                            exact P251_576 H hd K0 Kr
                          · rw [if_neg h14] at H ⊢
                            unfold m_sw
                            by_cases h15 : ((X.2 x4.toNatClampNeg) &&& 63) = 12
                            · rw [if_pos h15] at H ⊢
                              exact P251_621 H hd K0 Kr
                            · rw [if_neg h15] at H ⊢
                              unfold m_sw
                              by_cases h16 : ((X.2 x4.toNatClampNeg) &&& 63) = 13
                              · rw [if_pos h16] at H ⊢
                                exact P251_628 H hd K0 Kr
                              · rw [if_neg h16] at H ⊢
                                unfold m_sw
                                by_cases h17 : ((X.2 x4.toNatClampNeg) &&& 63) = 14
                                · rw [if_pos h17] at H ⊢
                                  exact P251_673 H hd K0 Kr
                                · rw [if_neg h17] at H ⊢
                                  unfold m_sw
                                  by_cases h18 : ((X.2 x4.toNatClampNeg) &&& 63) = 15
                                  · rw [if_pos h18] at H ⊢
                                    exact P251_708 H hd K0 Kr
                                  · rw [if_neg h18] at H ⊢
                                    unfold m_sw
                                    by_cases h19 : ((X.2 x4.toNatClampNeg) &&& 63) = 16
                                    · rw [if_pos h19] at H ⊢
                                      exact P251_743 H hd K0 Kr
                                    · rw [if_neg h19] at H ⊢
                                      unfold m_sw
                                      by_cases h20 : ((X.2 x4.toNatClampNeg) &&& 63) = 17
                                      · rw [if_pos h20] at H ⊢
                                        exact P251_778 H hd K0 Kr
                                      · rw [if_neg h20] at H ⊢
                                        unfold m_sw
                                        by_cases h21 : ((X.2 x4.toNatClampNeg) &&& 63) = 18
                                        · rw [if_pos h21] at H ⊢
                                          exact P251_813 H hd K0 Kr
                                        · rw [if_neg h21] at H ⊢
                                          unfold m_sw
                                          by_cases h22 : ((X.2 x4.toNatClampNeg) &&& 63) = 19
                                          · rw [if_pos h22] at H ⊢
                                            exact P251_851 H hd K0 Kr
                                          · rw [if_neg h22] at H ⊢
                                            unfold m_sw
                                            by_cases h23 : ((X.2 x4.toNatClampNeg) &&& 63) = 20
                                            · rw [if_pos h23] at H ⊢
                                              exact P251_886 H hd K0 Kr
                                            · rw [if_neg h23] at H ⊢
                                              unfold m_sw
                                              by_cases h24 : ((X.2 x4.toNatClampNeg) &&& 63) = 21
                                              · rw [if_pos h24] at H ⊢
                                                exact P251_941 H hd K0 Kr
                                              · rw [if_neg h24] at H ⊢
                                                unfold m_sw
                                                by_cases h25 : ((X.2 x4.toNatClampNeg) &&& 63) = 22
                                                · rw [if_pos h25] at H ⊢
                                                  exact P251_986 H hd K0 Kr
                                                · rw [if_neg h25] at H ⊢
                                                  unfold m_sw
                                                  by_cases h26 : ((X.2 x4.toNatClampNeg) &&& 63) = 23
                                                  · rw [if_pos h26] at H ⊢
                                                    exact P251_1021 H hd K0 Kr
                                                  · rw [if_neg h26] at H ⊢
                                                    unfold m_sw
                                                    by_cases h27 : ((X.2 x4.toNatClampNeg) &&& 63) = 24
                                                    · rw [if_pos h27] at H ⊢
                                                      exact P251_1056 H hd K0 Kr
                                                    · rw [if_neg h27] at H ⊢
                                                      unfold m_sw
                                                      by_cases h28 : ((X.2 x4.toNatClampNeg) &&& 63) = 25
                                                      · rw [if_pos h28] at H ⊢
                                                        exact P251_1091 H hd K0 Kr
                                                      · rw [if_neg h28] at H ⊢
                                                        unfold m_sw
                                                        by_cases h29 : ((X.2 x4.toNatClampNeg) &&& 63) = 26
                                                        · rw [if_pos h29] at H ⊢
                                                          exact P251_1098 H hd K0 Kr
                                                        · rw [if_neg h29] at H ⊢
                                                          unfold m_sw
                                                          by_cases h30 : ((X.2 x4.toNatClampNeg) &&& 63) = 27
                                                          · rw [if_pos h30] at H ⊢
                                                            exact P251_1151 H hd K0 Kr
                                                          · rw [if_neg h30] at H ⊢
                                                            unfold m_sw
                                                            by_cases h31 : ((X.2 x4.toNatClampNeg) &&& 63) = 28
                                                            · rw [if_pos h31] at H ⊢
                                                              exact P251_1158 H hd K0 Kr
                                                            · rw [if_neg h31] at H ⊢
                                                              unfold m_sw
                                                              by_cases h32 : ((X.2 x4.toNatClampNeg) &&& 63) = 29
                                                              · rw [if_pos h32] at H ⊢
                                                                exact P251_1203 H hd K0 Kr
                                                              · rw [if_neg h32] at H ⊢
                                                                unfold m_sw
                                                                by_cases h33 : ((X.2 x4.toNatClampNeg) &&& 63) = 30
                                                                · rw [if_pos h33] at H ⊢
                                                                  exact P251_1248 H hd K0 Kr
                                                                · rw [if_neg h33] at H ⊢
                                                                  unfold m_sw
                                                                  by_cases h34 : ((X.2 x4.toNatClampNeg) &&& 63) = 31
                                                                  · rw [if_pos h34] at H ⊢
                                                                    exact P251_1293 H hd K0 Kr
                                                                  · rw [if_neg h34] at H ⊢
                                                                    unfold m_sw
                                                                    by_cases h35 : ((X.2 x4.toNatClampNeg) &&& 63) = 32
                                                                    · rw [if_pos h35] at H ⊢
                                                                      exact P251_1338 H hd K0 Kr
                                                                    · rw [if_neg h35] at H ⊢
                                                                      unfold m_sw
                                                                      by_cases h36 : ((X.2 x4.toNatClampNeg) &&& 63) = 33
                                                                      · rw [if_pos h36] at H ⊢
                                                                        exact P251_1345 H hd K0 Kr
                                                                      · rw [if_neg h36] at H ⊢
                                                                        unfold m_sw
                                                                        by_cases h37 : ((X.2 x4.toNatClampNeg) &&& 63) = 34
                                                                        · rw [if_pos h37] at H ⊢
                                                                          exact P251_1390 H hd K0 Kr
                                                                        · rw [if_neg h37] at H ⊢
                                                                          unfold m_sw
                                                                          by_cases h38 : ((X.2 x4.toNatClampNeg) &&& 63) = 35
                                                                          · rw [if_pos h38] at H ⊢
                                                                            exact P251_1435 H hd K0 Kr
                                                                          · rw [if_neg h38] at H ⊢
                                                                            unfold m_sw
                                                                            by_cases h39 : ((X.2 x4.toNatClampNeg) &&& 63) = 36
                                                                            · rw [if_pos h39] at H ⊢
                                                                              exact P251_1442 H hd K0 Kr
                                                                            · rw [if_neg h39] at H ⊢
                                                                              unfold m_sw
                                                                              by_cases h40 : ((X.2 x4.toNatClampNeg) &&& 63) = 37
                                                                              · rw [if_pos h40] at H ⊢
                                                                                exact P251_1449 H hd K0 Kr
                                                                              · rw [if_neg h40] at H ⊢
                                                                                unfold m_sw
                                                                                refine g_go 2 md_251 (i1 := 13) (ls1 := [some (.ref 1000000), some (.ref 0), some (.ref 199), some (.ref 564), some (.int (x4 + 7)), u5, u6]) rfl ?_
                                                                                cases H
                                                                                exact K0 (x4 + 7, (s, ex)) rfl _ _
noncomputable def f251L (X : m_X) (x4 : Int32) (s : g_S) (ex : Nat) : Option (Int32 × (g_S × Nat)) := g_run (fun S : Int32 × (g_S × Nat) => f251 X S.2.1 S.2.2 S.1) (x4, (s, ex))
theorem f251L_eq (X : m_X) (x4 : Int32) (s : g_S) (ex : Nat) : f251L X x4 s ex = g_st (f251 X s ex x4) (fun S => f251L X S.1 S.2.1 S.2.2) := by
  unfold f251L
  exact g_run_eq _ _
theorem P251L {d ex : Nat} {s : g_S} {x4 : Int32} {u5 u6 : Option Value} {z : Int32 × (g_S × Nat)} (H : f251L X x4 s ex = some z) (hd : 86 ≤ d) : n_R X (d + 1) 251 13 [some (.ref 1000000), some (.ref 0), some (.ref 199), some (.ref 564), some (.int x4), u5, u6] [] (g_M s ex) (g_rL z) := by
  unfold f251L at H
  refine g_rs (Q := fun S => ∀ u5 u6 : Option Value, n_R X (d + 1) 251 13 [some (.ref 1000000), some (.ref 0), some (.ref 199), some (.ref 564), some (.int S.1), u5, u6] [] (g_M S.2.1 S.2.2) (g_rL z)) H ?_ u5 u6
  intro S w hb K0 KK u5 u6
  refine P251 hb hd ?_ ?_
  · exact fun S1 e1 => K0 S1 e1
  · exact fun q e1 => by rw [KK q e1]

end K13
