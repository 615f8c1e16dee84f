/-! METHODS, written by wip/whole/gen_51.py (6). -/
section K6
variable {X : m_X}
theorem md_152 : m_md 152 = m_X8_product := rfl
noncomputable def f152_48 (φ : g_S → Option (Int32 × g_S)) (s : g_S) (y0 : Int32) : Option ((Int32 × g_S) ⊕ (Int32 × g_S)) := ((f139 s).bind fun s2 => some (.inl (y0, s2)))
theorem P152_48 {d ex : Nat} {rr : m_R} {L : Nat} {φ : g_S → Option (Int32 × g_S)} {s : g_S} {y0 : Int32} {u1 u2 u3 : Option Value}   {z : ((Int32 × g_S) ⊕ (Int32 × g_S))} (H : f152_48 φ s y0 = some z) (hL : 17 ≤ L) (hφ : ∀ d1, L ≤ d1 → ∀ {ex : Nat} {s : g_S} {z}, φ s = some z → n_C X d1 151 [.ref 199] (g_M s ex) (g_rSI z ex)) (hd : L + 0 ≤ d) (K0 : ∀ S : Int32 × g_S, z = .inl S → ∀ u2 u3 : Option Value, n_R X (d + 1) 152 5 [some (.ref 199), some (.int S.1), u2, u3] [] (g_M S.2 ex) rr) (Kr : ∀ q, z = .inr (q) → g_rSI q ex = rr) : n_R X (d + 1) 152 48 [some (.ref 199), u1, u2, u3] [.int y0] (g_M s ex) rr := by
  unfold f152_48 at H
  refine g_go 2 md_152 (i1 := 50) (ls1 := [some (.ref 199), some (.int y0), u2, u3]) rfl ?_
  obtain ⟨s2, hs2, H⟩ := g_bind H
  refine n_call (n_q md_152 rfl) (As := [.ref 199]) (rest := []) rfl rfl (Nat.le_of_ble_eq_true rfl) rfl (g_recv (b := 0) rfl t_199 rfl) (C139 (by omega) hs2) ?_
  refine g_go 1 md_152 (i1 := 5) rfl ?_
  cases H
  exact K0 (y0, s2) rfl _ _
noncomputable def f152_20 (φ : g_S → Option (Int32 × g_S)) (s : g_S) (x1 : Int32) : Option ((Int32 × g_S) ⊕ (Int32 × g_S)) := ((f138 s (s 199 4)).bind fun v1 => g_let (g_w s 199 4 ((s 199 4) + 1)) fun s2 => g_bd (φ s2) fun v3 s4 => if v1 = 42 then (f152_48 φ s4 (x1 * v3)) else (if v3 = 0 then (f152_48 φ s4 0) else (if v3 = 0 then none else f152_48 φ s4 (x1 / v3))))
theorem P152_20 {d ex : Nat} {rr : m_R} {L : Nat} {φ : g_S → Option (Int32 × g_S)} {s : g_S} {x1 : Int32} {u2 u3 : Option Value}   {z : ((Int32 × g_S) ⊕ (Int32 × g_S))} (H : f152_20 φ s x1 = some z) (hL : 17 ≤ L) (hφ : ∀ d1, L ≤ d1 → ∀ {ex : Nat} {s : g_S} {z}, φ s = some z → n_C X d1 151 [.ref 199] (g_M s ex) (g_rSI z ex)) (hd : L + 0 ≤ d) (K0 : ∀ S : Int32 × g_S, z = .inl S → ∀ u2 u3 : Option Value, n_R X (d + 1) 152 5 [some (.ref 199), some (.int S.1), u2, u3] [] (g_M S.2 ex) rr) (Kr : ∀ q, z = .inr (q) → g_rSI q ex = rr) : n_R X (d + 1) 152 20 [some (.ref 199), some (.int x1), u2, u3] [] (g_M s ex) rr := by
  unfold f152_20 at H
  refine g_go 2 md_152 (i1 := 22) rfl ?_
  refine g_getf (n_q md_152 rfl) t_199 rfl ?_
  obtain ⟨v1, hv1, H⟩ := g_bind H
  refine n_callv (n_q md_152 rfl) (As := [.ref 199, .int (s 199 4)]) (rest := []) rfl rfl (Nat.le_of_ble_eq_true rfl) rfl (g_recv (b := 0) rfl t_199 rfl) (C138 (by omega) hv1) ?_
  refine g_go 3 md_152 (i1 := 27) (ls1 := [some (.ref 199), some (.int x1), some (.int v1), u3]) rfl ?_
  refine g_getf (n_q md_152 rfl) t_199 rfl ?_
  refine g_go 2 md_152 (i1 := 30) rfl ?_
  obtain ⟨s2, es2, H⟩ := g_letp H
  refine g_putf (n_q md_152 rfl) t_199 rfl rfl es2 ?_
  refine g_go 1 md_152 (i1 := 32) rfl ?_
  obtain ⟨v3, s4, hv3, H⟩ := g_bdp H
  refine n_callv (n_q md_152 rfl) (As := [.ref 199]) (rest := []) rfl rfl (Nat.le_of_ble_eq_true rfl) rfl (g_recv (b := 0) rfl t_199 rfl) (hφ _ (by omega) hv3) ?_
  refine g_go 3 md_152 (i1 := 36) (ls1 := [some (.ref 199), some (.int x1), some (.int v1), some (.int v3)]) rfl ?_
  by_cases h5 : v1 = 42
  · rw [if_pos h5] at H
    refine n_cmpF (n_q md_152 rfl) (fun e1 => of_decide_eq_true e1 h5) ?_
    refine g_go 4 md_152 (i1 := 48) rfl ?_
    exact P152_48 H hL hφ hd K0 Kr
  · rw [if_neg h5] at H
    refine n_cmpT (n_q md_152 rfl) (decide_eq_true h5) ?_
    refine g_go 1 md_152 (i1 := 42) rfl ?_
    by_cases h6 : v3 = 0
    · rw [if_pos h6] at H
      refine n_ifF (n_q md_152 rfl) (fun e1 => of_decide_eq_true e1 h6) ?_
      refine g_go 2 md_152 (i1 := 48) rfl ?_
      exact P152_48 H hL hφ hd K0 Kr
    · rw [if_neg h6] at H
      refine n_ifT (n_q md_152 rfl) (decide_eq_true h6) ?_
      refine g_go 2 md_152 (i1 := 47) rfl ?_
      obtain ⟨h7, H⟩ := g_gn H
      refine n_bin (n_q md_152 rfl) (g_div h7) ?_
      exact P152_48 H hL hφ hd K0 Kr
noncomputable def f152_5 (φ : g_S → Option (Int32 × g_S)) (s : g_S) (x1 : Int32) : Option ((Int32 × g_S) ⊕ (Int32 × g_S)) := (if (s 199 6) = 0 then ((f138 s (s 199 4)).bind fun v2 => if v2 = 42 then (f152_20 φ s x1) else ((f138 s (s 199 4)).bind fun v4 => if v4 = 47 then (f152_20 φ s x1) else (some (.inr ((x1, s)))))) else (some (.inr ((x1, s)))))
theorem P152_5 {d ex : Nat} {rr : m_R} {L : Nat} {φ : g_S → Option (Int32 × g_S)} {s : g_S} {x1 : Int32} {u2 u3 : Option Value}   {z : ((Int32 × g_S) ⊕ (Int32 × g_S))} (H : f152_5 φ s x1 = some z) (hL : 17 ≤ L) (hφ : ∀ d1, L ≤ d1 → ∀ {ex : Nat} {s : g_S} {z}, φ s = some z → n_C X d1 151 [.ref 199] (g_M s ex) (g_rSI z ex)) (hd : L + 0 ≤ d) (K0 : ∀ S : Int32 × g_S, z = .inl S → ∀ u2 u3 : Option Value, n_R X (d + 1) 152 5 [some (.ref 199), some (.int S.1), u2, u3] [] (g_M S.2 ex) rr) (Kr : ∀ q, z = .inr (q) → g_rSI q ex = rr) : n_R X (d + 1) 152 5 [some (.ref 199), some (.int x1), u2, u3] [] (g_M s ex) rr := by
  unfold f152_5 at H
  refine g_go 1 md_152 (i1 := 6) rfl ?_
  refine g_getf (n_q md_152 rfl) t_199 rfl ?_
  by_cases h1 : (s 199 6) = 0
  · rw [if_pos h1] at H
    refine n_ifF (n_q md_152 rfl) (fun e1 => of_decide_eq_true e1 h1) ?_
    refine g_go 2 md_152 (i1 := 10) rfl ?_
    refine g_getf (n_q md_152 rfl) t_199 rfl ?_
    obtain ⟨v2, hv2, H⟩ := g_bind H
    refine n_callv (n_q md_152 rfl) (As := [.ref 199, .int (s 199 4)]) (rest := []) rfl rfl (Nat.le_of_ble_eq_true rfl) rfl (g_recv (b := 0) rfl t_199 rfl) (C138 (by omega) hv2) ?_
    refine g_go 1 md_152 (i1 := 13) rfl ?_
    by_cases h3 : v2 = 42
    · rw [if_pos h3] at H
      refine n_cmpT (n_q md_152 rfl) (decide_eq_true h3) ?_
      exact P152_20 H hL hφ hd K0 Kr
    · rw [if_neg h3] at H
      refine n_cmpF (n_q md_152 rfl) (fun e1 => h3 (of_decide_eq_true e1)) ?_
      refine g_go 2 md_152 (i1 := 16) rfl ?_
      refine g_getf (n_q md_152 rfl) t_199 rfl ?_
      obtain ⟨v4, hv4, H⟩ := g_bind H
      refine n_callv (n_q md_152 rfl) (As := [.ref 199, .int (s 199 4)]) (rest := []) rfl rfl (Nat.le_of_ble_eq_true rfl) rfl (g_recv (b := 0) rfl t_199 rfl) (C138 (by omega) hv4) ?_
      refine g_go 1 md_152 (i1 := 19) rfl ?_
      by_cases h5 : v4 = 47
      · rw [if_pos h5] at H
        refine n_cmpF (n_q md_152 rfl) (fun e1 => of_decide_eq_true e1 h5) ?_
        exact P152_20 H hL hφ hd K0 Kr
      · rw [if_neg h5] at H
        refine n_cmpT (n_q md_152 rfl) (decide_eq_true h5) ?_
        refine g_go 1 md_152 (i1 := 53) rfl ?_
        cases H
        rw [← Kr _ rfl]
        exact n_iret (n_q md_152 rfl) (Or.inl rfl)
  · rw [if_neg h1] at H
    refine n_ifT (n_q md_152 rfl) (decide_eq_true h1) ?_
    refine g_go 1 md_152 (i1 := 53) rfl ?_
    cases H
    rw [← Kr _ rfl]
    exact n_iret (n_q md_152 rfl) (Or.inl rfl)
noncomputable def f152_5L (φ : g_S → Option (Int32 × g_S)) (s : g_S) (x1 : Int32) : Option (Int32 × g_S) := g_run (fun S : Int32 × g_S => f152_5 φ S.2 S.1) (x1, s)
theorem f152_5L_eq (φ : g_S → Option (Int32 × g_S)) (s : g_S) (x1 : Int32) : f152_5L φ s x1 = g_st (f152_5 φ s x1) (fun S => f152_5L φ S.2 S.1) := by
  unfold f152_5L
  exact g_run_eq _ _
theorem P152_5L {d ex : Nat} {L : Nat} {φ : g_S → Option (Int32 × g_S)} {s : g_S} {x1 : Int32} {u2 u3 : Option Value}   {z : (Int32 × g_S)} (H : f152_5L φ s x1 = some z) (hL : 17 ≤ L) (hφ : ∀ d1, L ≤ d1 → ∀ {ex : Nat} {s : g_S} {z}, φ s = some z → n_C X d1 151 [.ref 199] (g_M s ex) (g_rSI z ex)) (hd : L + 0 ≤ d)  : n_R X (d + 1) 152 5 [some (.ref 199), some (.int x1), u2, u3] [] (g_M s ex) (g_rSI z ex) := by
  unfold f152_5L at H
  refine g_rs (Q := fun S => ∀ u2 u3 : Option Value, n_R X (d + 1) 152 5 [some (.ref 199), some (.int S.1), u2, u3] [] (g_M S.2 ex) (g_rSI z ex)) H ?_ u2 u3
  intro S w hb K0 KK u2 u3
  refine P152_5 hb hL hφ hd ?_ ?_
  · exact fun S1 e1 => K0 S1 e1
  · exact fun q e1 => by rw [KK q e1]
noncomputable def f152 (φ : g_S → Option (Int32 × g_S)) (s : g_S) : Option (Int32 × g_S) := (g_bd (φ s) fun v1 s2 => (f139 s2).bind fun s4 => f152_5L φ s4 v1)
theorem C152 {d ex : Nat} {L : Nat} {φ : g_S → Option (Int32 × g_S)} {s : g_S}  {z : Int32 × g_S} (hL : 17 ≤ L) (hφ : ∀ d1, L ≤ d1 → ∀ {ex : Nat} {s : g_S} {z}, φ s = some z → n_C X d1 151 [.ref 199] (g_M s ex) (g_rSI z ex)) (hd : L + 0 < d) (H : f152 φ s = some z) : n_C X d 152 [.ref 199] (g_M s ex) (g_rSI z ex) := by
  obtain ⟨d, rfl⟩ : ∃ d1, d = d1 + 1 := ⟨d - 1, by omega⟩
  replace hd := Nat.le_of_lt_succ hd
  refine ⟨Nat.le_of_ble_eq_true rfl, ?_⟩
  rw [md_152]
  show n_R X (d + 1) 152 0 [some (.ref 199), none, none, none] [] (g_M s ex) _
  unfold f152 at H
  refine g_go 1 md_152 (i1 := 1) rfl ?_
  obtain ⟨v1, s2, hv1, H⟩ := g_bdp H
  refine n_callv (n_q md_152 rfl) (As := [.ref 199]) (rest := []) rfl rfl (Nat.le_of_ble_eq_true rfl) rfl (g_recv (b := 0) rfl t_199 rfl) (hφ _ (by omega) hv1) ?_
  refine g_go 2 md_152 (i1 := 4) (ls1 := [some (.ref 199), some (.int v1), none, none]) rfl ?_
  obtain ⟨s4, hs4, H⟩ := g_bind H
  refine n_call (n_q md_152 rfl) (As := [.ref 199]) (rest := []) rfl rfl (Nat.le_of_ble_eq_true rfl) rfl (g_recv (b := 0) rfl t_199 rfl) (C139 (by omega) hs4) ?_
  exact P152_5L H hL hφ hd

theorem md_153 : m_md 153 = m_X8_sum := rfl
noncomputable def f153_44 (φ : g_S → Option (Int32 × g_S)) (s : g_S) (y0 : Int32) : Option ((Int32 × g_S) ⊕ (Int32 × g_S)) := ((f139 s).bind fun s2 => some (.inl (y0, s2)))
theorem P153_44 {d ex : Nat} {rr : m_R} {L : Nat} {φ : g_S → Option (Int32 × g_S)} {s : g_S} {y0 : Int32} {u1 u2 u3 : Option Value}   {z : ((Int32 × g_S) ⊕ (Int32 × g_S))} (H : f153_44 φ s y0 = some z) (hL : 17 ≤ L) (hφ : ∀ d1, L ≤ d1 → ∀ {ex : Nat} {s : g_S} {z}, φ s = some z → n_C X d1 151 [.ref 199] (g_M s ex) (g_rSI z ex)) (hd : L + 1 ≤ d) (K0 : ∀ S : Int32 × g_S, z = .inl S → ∀ u2 u3 : Option Value, n_R X (d + 1) 153 5 [some (.ref 199), some (.int S.1), u2, u3] [] (g_M S.2 ex) rr) (Kr : ∀ q, z = .inr (q) → g_rSI q ex = rr) : n_R X (d + 1) 153 44 [some (.ref 199), u1, u2, u3] [.int y0] (g_M s ex) rr := by
  unfold f153_44 at H
  refine g_go 2 md_153 (i1 := 46) (ls1 := [some (.ref 199), some (.int y0), u2, u3]) rfl ?_
  obtain ⟨s2, hs2, H⟩ := g_bind H
  refine n_call (n_q md_153 rfl) (As := [.ref 199]) (rest := []) rfl rfl (Nat.le_of_ble_eq_true rfl) rfl (g_recv (b := 0) rfl t_199 rfl) (C139 (by omega) hs2) ?_
  refine g_go 1 md_153 (i1 := 5) rfl ?_
  cases H
  exact K0 (y0, s2) rfl _ _
noncomputable def f153_20 (φ : g_S → Option (Int32 × g_S)) (s : g_S) (x1 : Int32) : Option ((Int32 × g_S) ⊕ (Int32 × g_S)) := ((f138 s (s 199 4)).bind fun v1 => g_let (g_w s 199 4 ((s 199 4) + 1)) fun s2 => g_bd (f152 φ s2) fun v3 s4 => if v1 = 43 then (f153_44 φ s4 (x1 + v3)) else (f153_44 φ s4 (x1 - v3)))
theorem P153_20 {d ex : Nat} {rr : m_R} {L : Nat} {φ : g_S → Option (Int32 × g_S)} {s : g_S} {x1 : Int32} {u2 u3 : Option Value}   {z : ((Int32 × g_S) ⊕ (Int32 × g_S))} (H : f153_20 φ s x1 = some z) (hL : 17 ≤ L) (hφ : ∀ d1, L ≤ d1 → ∀ {ex : Nat} {s : g_S} {z}, φ s = some z → n_C X d1 151 [.ref 199] (g_M s ex) (g_rSI z ex)) (hd : L + 1 ≤ d) (K0 : ∀ S : Int32 × g_S, z = .inl S → ∀ u2 u3 : Option Value, n_R X (d + 1) 153 5 [some (.ref 199), some (.int S.1), u2, u3] [] (g_M S.2 ex) rr) (Kr : ∀ q, z = .inr (q) → g_rSI q ex = rr) : n_R X (d + 1) 153 20 [some (.ref 199), some (.int x1), u2, u3] [] (g_M s ex) rr := by
  unfold f153_20 at H
  refine g_go 2 md_153 (i1 := 22) rfl ?_
  refine g_getf (n_q md_153 rfl) t_199 rfl ?_
  obtain ⟨v1, hv1, H⟩ := g_bind H
  refine n_callv (n_q md_153 rfl) (As := [.ref 199, .int (s 199 4)]) (rest := []) rfl rfl (Nat.le_of_ble_eq_true rfl) rfl (g_recv (b := 0) rfl t_199 rfl) (C138 (by omega) hv1) ?_
  refine g_go 3 md_153 (i1 := 27) (ls1 := [some (.ref 199), some (.int x1), some (.int v1), u3]) rfl ?_
  refine g_getf (n_q md_153 rfl) t_199 rfl ?_
  refine g_go 2 md_153 (i1 := 30) rfl ?_
  obtain ⟨s2, es2, H⟩ := g_letp H
  refine g_putf (n_q md_153 rfl) t_199 rfl rfl es2 ?_
  refine g_go 1 md_153 (i1 := 32) rfl ?_
  obtain ⟨v3, s4, hv3, H⟩ := g_bdp H
  refine n_callv (n_q md_153 rfl) (As := [.ref 199]) (rest := []) rfl rfl (Nat.le_of_ble_eq_true rfl) rfl (g_recv (b := 0) rfl t_199 rfl) (C152 hL hφ (by omega) hv3) ?_
  refine g_go 3 md_153 (i1 := 36) (ls1 := [some (.ref 199), some (.int x1), some (.int v1), some (.int v3)]) rfl ?_
  by_cases h5 : v1 = 43
  · rw [if_pos h5] at H
    refine n_cmpF (n_q md_153 rfl) (fun e1 => of_decide_eq_true e1 h5) ?_
    refine g_go 4 md_153 (i1 := 44) rfl ?_
    exact P153_44 H hL hφ hd K0 Kr
  · rw [if_neg h5] at H
    refine n_cmpT (n_q md_153 rfl) (decide_eq_true h5) ?_
    refine g_go 3 md_153 (i1 := 44) rfl ?_
    exact P153_44 H hL hφ hd K0 Kr
noncomputable def f153_5 (φ : g_S → Option (Int32 × g_S)) (s : g_S) (x1 : Int32) : Option ((Int32 × g_S) ⊕ (Int32 × g_S)) := (if (s 199 6) = 0 then ((f138 s (s 199 4)).bind fun v2 => if v2 = 43 then (f153_20 φ s x1) else ((f138 s (s 199 4)).bind fun v4 => if v4 = 45 then (f153_20 φ s x1) else (some (.inr ((x1, s)))))) else (some (.inr ((x1, s)))))
theorem P153_5 {d ex : Nat} {rr : m_R} {L : Nat} {φ : g_S → Option (Int32 × g_S)} {s : g_S} {x1 : Int32} {u2 u3 : Option Value}   {z : ((Int32 × g_S) ⊕ (Int32 × g_S))} (H : f153_5 φ s x1 = some z) (hL : 17 ≤ L) (hφ : ∀ d1, L ≤ d1 → ∀ {ex : Nat} {s : g_S} {z}, φ s = some z → n_C X d1 151 [.ref 199] (g_M s ex) (g_rSI z ex)) (hd : L + 1 ≤ d) (K0 : ∀ S : Int32 × g_S, z = .inl S → ∀ u2 u3 : Option Value, n_R X (d + 1) 153 5 [some (.ref 199), some (.int S.1), u2, u3] [] (g_M S.2 ex) rr) (Kr : ∀ q, z = .inr (q) → g_rSI q ex = rr) : n_R X (d + 1) 153 5 [some (.ref 199), some (.int x1), u2, u3] [] (g_M s ex) rr := by
  unfold f153_5 at H
  refine g_go 1 md_153 (i1 := 6) rfl ?_
  refine g_getf (n_q md_153 rfl) t_199 rfl ?_
  by_cases h1 : (s 199 6) = 0
  · rw [if_pos h1] at H
    refine n_ifF (n_q md_153 rfl) (fun e1 => of_decide_eq_true e1 h1) ?_
    refine g_go 2 md_153 (i1 := 10) rfl ?_
    refine g_getf (n_q md_153 rfl) t_199 rfl ?_
    obtain ⟨v2, hv2, H⟩ := g_bind H
    refine n_callv (n_q md_153 rfl) (As := [.ref 199, .int (s 199 4)]) (rest := []) rfl rfl (Nat.le_of_ble_eq_true rfl) rfl (g_recv (b := 0) rfl t_199 rfl) (C138 (by omega) hv2) ?_
    refine g_go 1 md_153 (i1 := 13) rfl ?_
    by_cases h3 : v2 = 43
    · rw [if_pos h3] at H
      refine n_cmpT (n_q md_153 rfl) (decide_eq_true h3) ?_
      exact P153_20 H hL hφ hd K0 Kr
    · rw [if_neg h3] at H
      refine n_cmpF (n_q md_153 rfl) (fun e1 => h3 (of_decide_eq_true e1)) ?_
      refine g_go 2 md_153 (i1 := 16) rfl ?_
      refine g_getf (n_q md_153 rfl) t_199 rfl ?_
      obtain ⟨v4, hv4, H⟩ := g_bind H
      refine n_callv (n_q md_153 rfl) (As := [.ref 199, .int (s 199 4)]) (rest := []) rfl rfl (Nat.le_of_ble_eq_true rfl) rfl (g_recv (b := 0) rfl t_199 rfl) (C138 (by omega) hv4) ?_
      refine g_go 1 md_153 (i1 := 19) rfl ?_
      by_cases h5 : v4 = 45
      · rw [if_pos h5] at H
        refine n_cmpF (n_q md_153 rfl) (fun e1 => of_decide_eq_true e1 h5) ?_
        exact P153_20 H hL hφ hd K0 Kr
      · rw [if_neg h5] at H
        refine n_cmpT (n_q md_153 rfl) (decide_eq_true h5) ?_
        refine g_go 1 md_153 (i1 := 49) rfl ?_
        cases H
        rw [← Kr _ rfl]
        exact n_iret (n_q md_153 rfl) (Or.inl rfl)
  · rw [if_neg h1] at H
    refine n_ifT (n_q md_153 rfl) (decide_eq_true h1) ?_
    refine g_go 1 md_153 (i1 := 49) rfl ?_
    cases H
    rw [← Kr _ rfl]
    exact n_iret (n_q md_153 rfl) (Or.inl rfl)
noncomputable def f153_5L (φ : g_S → Option (Int32 × g_S)) (s : g_S) (x1 : Int32) : Option (Int32 × g_S) := g_run (fun S : Int32 × g_S => f153_5 φ S.2 S.1) (x1, s)
theorem f153_5L_eq (φ : g_S → Option (Int32 × g_S)) (s : g_S) (x1 : Int32) : f153_5L φ s x1 = g_st (f153_5 φ s x1) (fun S => f153_5L φ S.2 S.1) := by
  unfold f153_5L
  exact g_run_eq _ _
theorem P153_5L {d ex : Nat} {L : Nat} {φ : g_S → Option (Int32 × g_S)} {s : g_S} {x1 : Int32} {u2 u3 : Option Value}   {z : (Int32 × g_S)} (H : f153_5L φ s x1 = some z) (hL : 17 ≤ L) (hφ : ∀ d1, L ≤ d1 → ∀ {ex : Nat} {s : g_S} {z}, φ s = some z → n_C X d1 151 [.ref 199] (g_M s ex) (g_rSI z ex)) (hd : L + 1 ≤ d)  : n_R X (d + 1) 153 5 [some (.ref 199), some (.int x1), u2, u3] [] (g_M s ex) (g_rSI z ex) := by
  unfold f153_5L at H
  refine g_rs (Q := fun S => ∀ u2 u3 : Option Value, n_R X (d + 1) 153 5 [some (.ref 199), some (.int S.1), u2, u3] [] (g_M S.2 ex) (g_rSI z ex)) H ?_ u2 u3
  intro S w hb K0 KK u2 u3
  refine P153_5 hb hL hφ hd ?_ ?_
  · exact fun S1 e1 => K0 S1 e1
  · exact fun q e1 => by rw [KK q e1]
noncomputable def f153 (φ : g_S → Option (Int32 × g_S)) (s : g_S) : Option (Int32 × g_S) := (g_bd (f152 φ s) fun v1 s2 => (f139 s2).bind fun s4 => f153_5L φ s4 v1)
theorem C153 {d ex : Nat} {L : Nat} {φ : g_S → Option (Int32 × g_S)} {s : g_S}  {z : Int32 × g_S} (hL : 17 ≤ L) (hφ : ∀ d1, L ≤ d1 → ∀ {ex : Nat} {s : g_S} {z}, φ s = some z → n_C X d1 151 [.ref 199] (g_M s ex) (g_rSI z ex)) (hd : L + 1 < d) (H : f153 φ s = some z) : n_C X d 153 [.ref 199] (g_M s ex) (g_rSI z ex) := by
  obtain ⟨d, rfl⟩ : ∃ d1, d = d1 + 1 := ⟨d - 1, by omega⟩
  replace hd := Nat.le_of_lt_succ hd
  refine ⟨Nat.le_of_ble_eq_true rfl, ?_⟩
  rw [md_153]
  show n_R X (d + 1) 153 0 [some (.ref 199), none, none, none] [] (g_M s ex) _
  unfold f153 at H
  refine g_go 1 md_153 (i1 := 1) rfl ?_
  obtain ⟨v1, s2, hv1, H⟩ := g_bdp H
  refine n_callv (n_q md_153 rfl) (As := [.ref 199]) (rest := []) rfl rfl (Nat.le_of_ble_eq_true rfl) rfl (g_recv (b := 0) rfl t_199 rfl) (C152 hL hφ (by omega) hv1) ?_
  refine g_go 2 md_153 (i1 := 4) (ls1 := [some (.ref 199), some (.int v1), none, none]) rfl ?_
  obtain ⟨s4, hs4, H⟩ := g_bind H
  refine n_call (n_q md_153 rfl) (As := [.ref 199]) (rest := []) rfl rfl (Nat.le_of_ble_eq_true rfl) rfl (g_recv (b := 0) rfl t_199 rfl) (C139 (by omega) hs4) ?_
  exact P153_5L H hL hφ hd

theorem md_151 : m_md 151 = m_X8_unit := rfl
noncomputable def f151_98 (φ : g_S → Option (Int32 × g_S)) (s : g_S) (x4 : Int32) : Option (Int32 × g_S) := ((f148 s 41).bind fun s2 => g_let (g_w s2 199 5 ((s2 199 5) - 1)) fun s3 => some ((x4, s3)))
theorem P151_98 {d ex : Nat} {L : Nat} {φ : g_S → Option (Int32 × g_S)} {s : g_S} {x4 : Int32} {u1 u2 u3 u5 : Option Value}   {z : (Int32 × g_S)} (H : f151_98 φ s x4 = some z) (hL : 17 ≤ L) (hφ : ∀ d1, L ≤ d1 → ∀ {ex : Nat} {s : g_S} {z}, φ s = some z → n_C X d1 151 [.ref 199] (g_M s ex) (g_rSI z ex)) (hd : L + 2 ≤ d)  : n_R X (d + 1) 151 98 [some (.ref 199), u1, u2, u3, some (.int x4), u5] [] (g_M s ex) (g_rSI z ex) := by
  unfold f151_98 at H
  refine g_go 2 md_151 (i1 := 100) rfl ?_
  obtain ⟨s2, hs2, H⟩ := g_bind H
  refine n_call (n_q md_151 rfl) (As := [.ref 199, .int 41]) (rest := []) rfl rfl (Nat.le_of_ble_eq_true rfl) rfl (g_recv (b := 0) rfl t_199 rfl) (C148 (by omega) hs2) ?_
  refine g_go 2 md_151 (i1 := 103) rfl ?_
  refine g_getf (n_q md_151 rfl) t_199 rfl ?_
  refine g_go 2 md_151 (i1 := 106) rfl ?_
  obtain ⟨s3, es3, H⟩ := g_letp H
  refine g_putf (n_q md_151 rfl) t_199 rfl rfl es3 ?_
  refine g_go 1 md_151 (i1 := 108) rfl ?_
  cases H
  exact n_iret (n_q md_151 rfl) (Or.inl rfl)
noncomputable def f151_97 (φ : g_S → Option (Int32 × g_S)) (s : g_S) (y0 : Int32) : Option (Int32 × g_S) := (f151_98 φ s y0)
theorem P151_97 {d ex : Nat} {L : Nat} {φ : g_S → Option (Int32 × g_S)} {s : g_S} {y0 : Int32} {u1 u2 u3 u4 u5 : Option Value}   {z : (Int32 × g_S)} (H : f151_97 φ s y0 = some z) (hL : 17 ≤ L) (hφ : ∀ d1, L ≤ d1 → ∀ {ex : Nat} {s : g_S} {z}, φ s = some z → n_C X d1 151 [.ref 199] (g_M s ex) (g_rSI z ex)) (hd : L + 2 ≤ d)  : n_R X (d + 1) 151 97 [some (.ref 199), u1, u2, u3, u4, u5] [.int y0] (g_M s ex) (g_rSI z ex) := by
  unfold f151_97 at H
  refine g_go 1 md_151 (i1 := 98) (ls1 := [some (.ref 199), u1, u2, u3, some (.int y0), u5]) rfl ?_
  exact P151_98 H hL hφ hd
noncomputable def f151_93 (φ : g_S → Option (Int32 × g_S)) (s : g_S) (x4 : Int32) (x5 : Int32) (y0 : Int32) (y1 : Int32) : Option (Int32 × g_S) := (if y0 = y1 then (f151_97 φ s x5) else (f151_97 φ s x4))
theorem P151_93 {d ex : Nat} {L : Nat} {φ : g_S → Option (Int32 × g_S)} {s : g_S} {x4 : Int32} {x5 : Int32} {y0 : Int32} {y1 : Int32} {u1 u2 u3 : Option Value}   {z : (Int32 × g_S)} (H : f151_93 φ s x4 x5 y0 y1 = some z) (hL : 17 ≤ L) (hφ : ∀ d1, L ≤ d1 → ∀ {ex : Nat} {s : g_S} {z}, φ s = some z → n_C X d1 151 [.ref 199] (g_M s ex) (g_rSI z ex)) (hd : L + 2 ≤ d)  : n_R X (d + 1) 151 93 [some (.ref 199), u1, u2, u3, some (.int x4), some (.int x5)] [.int y1, .int y0] (g_M s ex) (g_rSI z ex) := by
  unfold f151_93 at H
  by_cases h1 : y0 = y1
  · rw [if_pos h1] at H
    refine n_cmpF (n_q md_151 rfl) (fun e1 => of_decide_eq_true e1 h1) ?_
    refine g_go 2 md_151 (i1 := 97) rfl ?_
    exact P151_97 H hL hφ hd
  · rw [if_neg h1] at H
    refine n_cmpT (n_q md_151 rfl) (decide_eq_true h1) ?_
    refine g_go 1 md_151 (i1 := 97) rfl ?_
    exact P151_97 H hL hφ hd
noncomputable def f151_80 (φ : g_S → Option (Int32 × g_S)) (s : g_S) (x2 : Int32) (x4 : Int32) : Option (Int32 × g_S) := ((f148 s 44).bind fun s2 => g_bd (f153 φ s2) fun v3 s4 => if v3 < x4 then (f151_93 φ s4 x4 v3 x2 1) else (f151_93 φ s4 x4 v3 x2 0))
theorem P151_80 {d ex : Nat} {L : Nat} {φ : g_S → Option (Int32 × g_S)} {s : g_S} {x2 : Int32} {x4 : Int32} {u1 u3 u5 : Option Value}   {z : (Int32 × g_S)} (H : f151_80 φ s x2 x4 = some z) (hL : 17 ≤ L) (hφ : ∀ d1, L ≤ d1 → ∀ {ex : Nat} {s : g_S} {z}, φ s = some z → n_C X d1 151 [.ref 199] (g_M s ex) (g_rSI z ex)) (hd : L + 2 ≤ d)  : n_R X (d + 1) 151 80 [some (.ref 199), u1, some (.int x2), u3, some (.int x4), u5] [] (g_M s ex) (g_rSI z ex) := by
  unfold f151_80 at H
  refine g_go 2 md_151 (i1 := 82) rfl ?_
  obtain ⟨s2, hs2, H⟩ := g_bind H
  refine n_call (n_q md_151 rfl) (As := [.ref 199, .int 44]) (rest := []) rfl rfl (Nat.le_of_ble_eq_true rfl) rfl (g_recv (b := 0) rfl t_199 rfl) (C148 (by omega) hs2) ?_
  refine g_go 1 md_151 (i1 := 84) rfl ?_
  obtain ⟨v3, s4, hv3, H⟩ := g_bdp H
  refine n_callv (n_q md_151 rfl) (As := [.ref 199]) (rest := []) rfl rfl (Nat.le_of_ble_eq_true rfl) rfl (g_recv (b := 0) rfl t_199 rfl) (C153 hL hφ (by omega) hv3) ?_
  refine g_go 4 md_151 (i1 := 89) (ls1 := [some (.ref 199), u1, some (.int x2), u3, some (.int x4), some (.int v3)]) rfl ?_
  by_cases h5 : v3 < x4
  · rw [if_pos h5] at H
    refine n_cmpF (n_q md_151 rfl) (fun e1 => absurd (of_decide_eq_true e1) (Int32.not_le.mpr h5)) ?_
    refine g_go 2 md_151 (i1 := 93) rfl ?_
    exact P151_93 H hL hφ hd
  · rw [if_neg h5] at H
    refine n_cmpT (n_q md_151 rfl) (decide_eq_true (Int32.not_lt.mp h5)) ?_
    refine g_go 1 md_151 (i1 := 93) rfl ?_
    exact P151_93 H hL hφ hd
noncomputable def f151_55 (φ : g_S → Option (Int32 × g_S)) (s : g_S) (x2 : Int32) (x3 : Int32) : Option (Int32 × g_S) := ((f139 s).bind fun s2 => (f138 s2 (s2 199 4)).bind fun v3 => if v3 = 40 then ((f149 s2 1).bind fun s6 => g_bd (f153 φ s6) fun v7 s8 => if x2 = 0 then (if x3 = 0 then (f151_98 φ s8 v7) else (f151_80 φ s8 x2 v7)) else (f151_80 φ s8 x2 v7)) else ((f140 s2 1 (s2 199 4)).bind fun s6 => some ((0, s6))))
theorem P151_55 {d ex : Nat} {L : Nat} {φ : g_S → Option (Int32 × g_S)} {s : g_S} {x2 : Int32} {x3 : Int32} {u1 u4 u5 : Option Value}   {z : (Int32 × g_S)} (H : f151_55 φ s x2 x3 = some z) (hL : 17 ≤ L) (hφ : ∀ d1, L ≤ d1 → ∀ {ex : Nat} {s : g_S} {z}, φ s = some z → n_C X d1 151 [.ref 199] (g_M s ex) (g_rSI z ex)) (hd : L + 2 ≤ d)  : n_R X (d + 1) 151 55 [some (.ref 199), u1, some (.int x2), some (.int x3), u4, u5] [] (g_M s ex) (g_rSI z ex) := by
  unfold f151_55 at H
  refine g_go 1 md_151 (i1 := 56) rfl ?_
  obtain ⟨s2, hs2, H⟩ := g_bind H
  refine n_call (n_q md_151 rfl) (As := [.ref 199]) (rest := []) rfl rfl (Nat.le_of_ble_eq_true rfl) rfl (g_recv (b := 0) rfl t_199 rfl) (C139 (by omega) hs2) ?_
  refine g_go 2 md_151 (i1 := 59) rfl ?_
  refine g_getf (n_q md_151 rfl) t_199 rfl ?_
  obtain ⟨v3, hv3, H⟩ := g_bind H
  refine n_callv (n_q md_151 rfl) (As := [.ref 199, .int (s2 199 4)]) (rest := []) rfl rfl (Nat.le_of_ble_eq_true rfl) rfl (g_recv (b := 0) rfl t_199 rfl) (C138 (by omega) hv3) ?_
  refine g_go 1 md_151 (i1 := 62) rfl ?_
  by_cases h4 : v3 = 40
  · rw [if_pos h4] at H
    refine n_cmpT (n_q md_151 rfl) (decide_eq_true h4) ?_
    refine g_go 2 md_151 (i1 := 72) rfl ?_
    obtain ⟨s6, hs6, H⟩ := g_bind H
    refine n_call (n_q md_151 rfl) (As := [.ref 199, .int 1]) (rest := []) rfl rfl (Nat.le_of_ble_eq_true rfl) rfl (g_recv (b := 0) rfl t_199 rfl) (C149 (by omega) hs6) ?_
    refine g_go 1 md_151 (i1 := 74) rfl ?_
    obtain ⟨v7, s8, hv7, H⟩ := g_bdp H
    refine n_callv (n_q md_151 rfl) (As := [.ref 199]) (rest := []) rfl rfl (Nat.le_of_ble_eq_true rfl) rfl (g_recv (b := 0) rfl t_199 rfl) (C153 hL hφ (by omega) hv7) ?_
    refine g_go 2 md_151 (i1 := 77) (ls1 := [some (.ref 199), u1, some (.int x2), some (.int x3), some (.int v7), u5]) rfl ?_
    by_cases h9 : x2 = 0
    · rw [if_pos h9] at H
      refine n_ifF (n_q md_151 rfl) (fun e1 => of_decide_eq_true e1 h9) ?_
      refine g_go 1 md_151 (i1 := 79) rfl ?_
      by_cases h10 : x3 = 0
      · rw [if_pos h10] at H
        refine n_ifT (n_q md_151 rfl) (decide_eq_true h10) ?_
        exact P151_98 H hL hφ hd
      · rw [if_neg h10] at H
        refine n_ifF (n_q md_151 rfl) (fun e1 => h10 (of_decide_eq_true e1)) ?_
        exact P151_80 H hL hφ hd
    · rw [if_neg h9] at H
      refine n_ifT (n_q md_151 rfl) (decide_eq_true h9) ?_
      exact P151_80 H hL hφ hd
  · rw [if_neg h4] at H
    refine n_cmpF (n_q md_151 rfl) (fun e1 => h4 (of_decide_eq_true e1)) ?_
    refine g_go 3 md_151 (i1 := 66) rfl ?_
    refine g_getf (n_q md_151 rfl) t_199 rfl ?_
    obtain ⟨s6, hs6, H⟩ := g_bind H
    refine n_call (n_q md_151 rfl) (As := [.ref 199, .int 1, .int (s2 199 4)]) (rest := []) rfl rfl (Nat.le_of_ble_eq_true rfl) rfl (g_recv (b := 0) rfl t_199 rfl) (C140 (by omega) hs6) ?_
    refine g_go 1 md_151 (i1 := 69) rfl ?_
    cases H
    exact n_iret (n_q md_151 rfl) (Or.inl rfl)
noncomputable def f151_53 (φ : g_S → Option (Int32 × g_S)) (s : g_S) (x2 : Int32) (x3 : Int32) : Option (Int32 × g_S) := ((f147 s).bind fun s2 => f151_55 φ s2 x2 x3)
theorem P151_53 {d ex : Nat} {L : Nat} {φ : g_S → Option (Int32 × g_S)} {s : g_S} {x2 : Int32} {x3 : Int32} {u1 u4 u5 : Option Value}   {z : (Int32 × g_S)} (H : f151_53 φ s x2 x3 = some z) (hL : 17 ≤ L) (hφ : ∀ d1, L ≤ d1 → ∀ {ex : Nat} {s : g_S} {z}, φ s = some z → n_C X d1 151 [.ref 199] (g_M s ex) (g_rSI z ex)) (hd : L + 2 ≤ d)  : n_R X (d + 1) 151 53 [some (.ref 199), u1, some (.int x2), some (.int x3), u4, u5] [] (g_M s ex) (g_rSI z ex) := by
  unfold f151_53 at H
  refine g_go 1 md_151 (i1 := 54) rfl ?_
  obtain ⟨s2, hs2, H⟩ := g_bind H
  refine n_call (n_q md_151 rfl) (As := [.ref 199]) (rest := []) rfl rfl (Nat.le_of_ble_eq_true rfl) rfl (g_recv (b := 0) rfl t_199 rfl) (C147 (by omega) hs2) ?_
  exact P151_55 H hL hφ hd
noncomputable def f151 (φ : g_S → Option (Int32 × g_S)) (s : g_S) : Option (Int32 × g_S) := (if (s 199 6) = 0 then ((f139 s).bind fun s3 => (f138 s3 (s3 199 4)).bind fun v4 => (f141 s3 v4).bind fun v5 => if v5 = 0 then (g_bd (f150 s3) fun v7 s8 => if v7 = ((-1)) then (g_bd (f146 s8 12 5 1 19 20 0) fun v10 s11 => g_bd (f146 s11 13 15 19 20 0 0) fun v12 s13 => if v10 = 0 then (if v12 = 0 then (f151_55 φ s13 v10 v12) else (f151_53 φ s13 v10 v12)) else (f151_53 φ s13 v10 v12)) else ((f147 s8).bind fun s11 => if m_in v7 8 = true then some ((s11 207 v7.toNatClampNeg, s11)) else none)) else (g_bd (f142 s3 0 9999) fun v7 s8 => some ((v7, s8)))) else (some ((0, s))))
theorem C151 {d ex : Nat} {L : Nat} {φ : g_S → Option (Int32 × g_S)} {s : g_S}  {z : Int32 × g_S} (hL : 17 ≤ L) (hφ : ∀ d1, L ≤ d1 → ∀ {ex : Nat} {s : g_S} {z}, φ s = some z → n_C X d1 151 [.ref 199] (g_M s ex) (g_rSI z ex)) (hd : L + 2 < d) (H : f151 φ s = some z) : n_C X d 151 [.ref 199] (g_M s ex) (g_rSI z ex) := by
  obtain ⟨d, rfl⟩ : ∃ d1, d = d1 + 1 := ⟨d - 1, by omega⟩
  replace hd := Nat.le_of_lt_succ hd
  refine ⟨Nat.le_of_ble_eq_true rfl, ?_⟩
  rw [md_151]
  show n_R X (d + 1) 151 0 [some (.ref 199), none, none, none, none, none] [] (g_M s ex) _
  unfold f151 at H
  refine g_go 1 md_151 (i1 := 1) rfl ?_
  refine g_getf (n_q md_151 rfl) t_199 rfl ?_
  by_cases h1 : (s 199 6) = 0
  · rw [if_pos h1] at H
    refine n_ifT (n_q md_151 rfl) (decide_eq_true h1) ?_
    refine g_go 1 md_151 (i1 := 6) rfl ?_
    obtain ⟨s3, hs3, H⟩ := g_bind H
    refine n_call (n_q md_151 rfl) (As := [.ref 199]) (rest := []) rfl rfl (Nat.le_of_ble_eq_true rfl) rfl (g_recv (b := 0) rfl t_199 rfl) (C139 (by omega) hs3) ?_
    refine g_go 2 md_151 (i1 := 9) rfl ?_
    refine g_getf (n_q md_151 rfl) t_199 rfl ?_
    obtain ⟨v4, hv4, H⟩ := g_bind H
    refine n_callv (n_q md_151 rfl) (As := [.ref 199, .int (s3 199 4)]) (rest := []) rfl rfl (Nat.le_of_ble_eq_true rfl) rfl (g_recv (b := 0) rfl t_199 rfl) (C138 (by omega) hv4) ?_
    obtain ⟨v5, hv5, H⟩ := g_bind H
    refine n_callv (n_q md_151 rfl) (As := [.int v4]) (rest := []) rfl rfl (Nat.le_of_ble_eq_true rfl) rfl rfl (C141 (by omega) hv5) ?_
    by_cases h6 : v5 = 0
    · rw [if_pos h6] at H
      refine n_ifT (n_q md_151 rfl) (decide_eq_true h6) ?_
      refine g_go 1 md_151 (i1 := 19) rfl ?_
      obtain ⟨v7, s8, hv7, H⟩ := g_bdp H
      refine n_callv (n_q md_151 rfl) (As := [.ref 199]) (rest := []) rfl rfl (Nat.le_of_ble_eq_true rfl) rfl (g_recv (b := 0) rfl t_199 rfl) (C150 (by omega) hv7) ?_
      refine g_go 3 md_151 (i1 := 23) (ls1 := [some (.ref 199), some (.int v7), none, none, none, none]) rfl ?_
      by_cases h9 : v7 = ((-1))
      · rw [if_pos h9] at H
        refine n_cmpT (n_q md_151 rfl) (decide_eq_true h9) ?_
        refine g_go 7 md_151 (i1 := 38) rfl ?_
        obtain ⟨v10, s11, hv10, H⟩ := g_bdp H
        refine n_callv (n_q md_151 rfl) (As := [.ref 199, .int 12, .int 5, .int 1, .int 19, .int 20, .int 0]) (rest := []) rfl rfl (Nat.le_of_ble_eq_true rfl) rfl (g_recv (b := 0) rfl t_199 rfl) (C146 (by omega) hv10) ?_
        refine g_go 8 md_151 (i1 := 47) (ls1 := [some (.ref 199), some (.int v7), some (.int v10), none, none, none]) rfl ?_
        obtain ⟨v12, s13, hv12, H⟩ := g_bdp H
        refine n_callv (n_q md_151 rfl) (As := [.ref 199, .int 13, .int 15, .int 19, .int 20, .int 0, .int 0]) (rest := []) rfl rfl (Nat.le_of_ble_eq_true rfl) rfl (g_recv (b := 0) rfl t_199 rfl) (C146 (by omega) hv12) ?_
        refine g_go 2 md_151 (i1 := 50) (ls1 := [some (.ref 199), some (.int v7), some (.int v10), some (.int v12), none, none]) rfl ?_
        by_cases h14 : v10 = 0
        · rw [if_pos h14] at H
          refine n_ifF (n_q md_151 rfl) (fun e1 => of_decide_eq_true e1 h14) ?_
          refine g_go 1 md_151 (i1 := 52) rfl ?_
          by_cases h15 : v12 = 0
          · rw [if_pos h15] at H
            refine n_ifT (n_q md_151 rfl) (decide_eq_true h15) ?_
            exact P151_55 H hL hφ hd
          · rw [if_neg h15] at H
            refine n_ifF (n_q md_151 rfl) (fun e1 => h15 (of_decide_eq_true e1)) ?_
            exact P151_53 H hL hφ hd
        · rw [if_neg h14] at H
          refine n_ifT (n_q md_151 rfl) (decide_eq_true h14) ?_
          exact P151_53 H hL hφ hd
      · rw [if_neg h9] at H
        refine n_cmpF (n_q md_151 rfl) (fun e1 => h9 (of_decide_eq_true e1)) ?_
        refine g_go 1 md_151 (i1 := 25) rfl ?_
        obtain ⟨s11, hs11, H⟩ := g_bind H
        refine n_call (n_q md_151 rfl) (As := [.ref 199]) (rest := []) rfl rfl (Nat.le_of_ble_eq_true rfl) rfl (g_recv (b := 0) rfl t_199 rfl) (C147 (by omega) hs11) ?_
        refine g_go 1 md_151 (i1 := 27) rfl ?_
        refine g_getr 207 (n_q md_151 rfl) t_199 rfl ?_
        refine g_go 1 md_151 (i1 := 29) rfl ?_
        obtain ⟨h12, H⟩ := g_gd H
        refine g_iald (n_q md_151 rfl) t_207 h12 ?_
        cases H
        exact n_iret (n_q md_151 rfl) (Or.inl rfl)
    · rw [if_neg h6] at H
      refine n_ifF (n_q md_151 rfl) (fun e1 => h6 (of_decide_eq_true e1)) ?_
      refine g_go 3 md_151 (i1 := 16) rfl ?_
      obtain ⟨v7, s8, hv7, H⟩ := g_bdp H
      refine n_callv (n_q md_151 rfl) (As := [.ref 199, .int 0, .int 9999]) (rest := []) rfl rfl (Nat.le_of_ble_eq_true rfl) rfl (g_recv (b := 0) rfl t_199 rfl) (C142 (by omega) hv7) ?_
      cases H
      exact n_iret (n_q md_151 rfl) (Or.inl rfl)
  · rw [if_neg h1] at H
    refine n_ifF (n_q md_151 rfl) (fun e1 => h1 (of_decide_eq_true e1)) ?_
    refine g_go 1 md_151 (i1 := 4) rfl ?_
    cases H
    exact n_iret (n_q md_151 rfl) (Or.inl rfl)

/-- the knot: m_X8_unit by fuel -/
noncomputable def g151 : Nat → g_S → Option (Int32 × g_S)
  | 0 => fun _ => none
  | n + 1 => fun s => f151 (g151 n) s
theorem G151 : ∀ n d1 : Nat, 17 + 3 * n ≤ d1 → ∀ {ex : Nat} {s : g_S} {z}, g151 n s = some z → n_C X d1 151 [.ref 199] (g_M s ex) (g_rSI z ex)
  | 0, _, _, _, _, _, h => by cases h
  | n + 1, d1, hd, ex, s, z, h => C151 (L := 17 + 3 * n) (φ := g151 n) (by omega) (fun d2 h2 => G151 n d2 h2) (by omega) h
noncomputable def f151c (s : g_S) : Option (Int32 × g_S) := f151 (g151 9) s
theorem C151c {d ex : Nat} {s : g_S} {z : Int32 × g_S} (hd : 46 < d) (H : f151c s = some z) : n_C X d 151 [.ref 199] (g_M s ex) (g_rSI z ex) := C151 (L := 44) (φ := g151 9) (by omega) (fun d2 h2 => G151 9 d2 (by omega)) (by omega) H
noncomputable def f152c (s : g_S) : Option (Int32 × g_S) := f152 (g151 9) s
theorem C152c {d ex : Nat} {s : g_S} {z : Int32 × g_S} (hd : 44 < d) (H : f152c s = some z) : n_C X d 152 [.ref 199] (g_M s ex) (g_rSI z ex) := C152 (L := 44) (φ := g151 9) (by omega) (fun d2 h2 => G151 9 d2 (by omega)) (by omega) H
noncomputable def f153c (s : g_S) : Option (Int32 × g_S) := f153 (g151 9) s
theorem C153c {d ex : Nat} {s : g_S} {z : Int32 × g_S} (hd : 45 < d) (H : f153c s = some z) : n_C X d 153 [.ref 199] (g_M s ex) (g_rSI z ex) := C153 (L := 44) (φ := g151 9) (by omega) (fun d2 h2 => G151 9 d2 (by omega)) (by omega) H

theorem md_155 : m_md 155 = m_X8_ands := rfl
noncomputable def f155_3 (φ : g_S → Option (Int32 × g_S)) (s : g_S) (x1 : Int32) : Option ((Int32 × g_S) ⊕ (Int32 × g_S)) := (if (s 199 6) = 0 then (g_bd (f146 s 1 14 4 0 0 0) fun v2 s3 => if v2 = 0 then (if m_isb x1 = true then some (.inr ((x1, s3))) else none) else ((f147 s3).bind fun s6 => g_bd (φ s6) fun v7 s8 => if x1 = 0 then (some (.inl (0, s8))) else (if v7 = 0 then (some (.inl (0, s8))) else (some (.inl (1, s8)))))) else (if m_isb x1 = true then some (.inr ((x1, s))) else none))
theorem P155_3 {d ex : Nat} {rr : m_R} {L : Nat} {φ : g_S → Option (Int32 × g_S)} {s : g_S} {x1 : Int32} {u2 : Option Value}   {z : ((Int32 × g_S) ⊕ (Int32 × g_S))} (H : f155_3 φ s x1 = some z) (hL : 46 ≤ L) (hφ : ∀ d1, L ≤ d1 → ∀ {ex : Nat} {s : g_S} {z}, φ s = some z → n_C X d1 154 [.ref 199] (g_M s ex) (g_rSI z ex)) (hd : L + 0 ≤ d) (K0 : ∀ S : Int32 × g_S, z = .inl S → ∀ u2 : Option Value, n_R X (d + 1) 155 3 [some (.ref 199), some (.int S.1), u2] [] (g_M S.2 ex) rr) (Kr : ∀ q, z = .inr (q) → g_rSI q ex = rr) : n_R X (d + 1) 155 3 [some (.ref 199), some (.int x1), u2] [] (g_M s ex) rr := by
  unfold f155_3 at H
  refine g_go 1 md_155 (i1 := 4) rfl ?_
  refine g_getf (n_q md_155 rfl) t_199 rfl ?_
  by_cases h1 : (s 199 6) = 0
  · rw [if_pos h1] at H
    refine n_ifF (n_q md_155 rfl) (fun e1 => of_decide_eq_true e1 h1) ?_
    refine g_go 7 md_155 (i1 := 13) rfl ?_
    obtain ⟨v2, s3, hv2, H⟩ := g_bdp H
    refine n_callv (n_q md_155 rfl) (As := [.ref 199, .int 1, .int 14, .int 4, .int 0, .int 0, .int 0]) (rest := []) rfl rfl (Nat.le_of_ble_eq_true rfl) rfl (g_recv (b := 0) rfl t_199 rfl) (C146 (by omega) hv2) ?_
    by_cases h4 : v2 = 0
    · rw [if_pos h4] at H
      refine n_ifT (n_q md_155 rfl) (decide_eq_true h4) ?_
      refine g_go 1 md_155 (i1 := 30) rfl ?_
      obtain ⟨hb5, H⟩ := g_gd H
      cases H
      rw [← Kr _ rfl]
      exact n_iret (n_q md_155 rfl) (Or.inr hb5)
    · rw [if_neg h4] at H
      refine n_ifF (n_q md_155 rfl) (fun e1 => h4 (of_decide_eq_true e1)) ?_
      refine g_go 1 md_155 (i1 := 16) rfl ?_
      obtain ⟨s6, hs6, H⟩ := g_bind H
      refine n_call (n_q md_155 rfl) (As := [.ref 199]) (rest := []) rfl rfl (Nat.le_of_ble_eq_true rfl) rfl (g_recv (b := 0) rfl t_199 rfl) (C147 (by omega) hs6) ?_
      refine g_go 1 md_155 (i1 := 18) rfl ?_
      obtain ⟨v7, s8, hv7, H⟩ := g_bdp H
      refine n_callv (n_q md_155 rfl) (As := [.ref 199]) (rest := []) rfl rfl (Nat.le_of_ble_eq_true rfl) rfl (g_recv (b := 0) rfl t_199 rfl) (hφ _ (by omega) hv7) ?_
      refine g_go 2 md_155 (i1 := 21) (ls1 := [some (.ref 199), some (.int x1), some (.int v7)]) rfl ?_
      by_cases h9 : x1 = 0
      · rw [if_pos h9] at H
        refine n_ifT (n_q md_155 rfl) (decide_eq_true h9) ?_
        refine g_go 3 md_155 (i1 := 3) (ls1 := [some (.ref 199), some (.int 0), some (.int v7)]) rfl ?_
        cases H
        exact K0 (0, s8) rfl _
      · rw [if_neg h9] at H
        refine n_ifF (n_q md_155 rfl) (fun e1 => h9 (of_decide_eq_true e1)) ?_
        refine g_go 1 md_155 (i1 := 23) rfl ?_
        by_cases h10 : v7 = 0
        · rw [if_pos h10] at H
          refine n_ifT (n_q md_155 rfl) (decide_eq_true h10) ?_
          refine g_go 3 md_155 (i1 := 3) (ls1 := [some (.ref 199), some (.int 0), some (.int v7)]) rfl ?_
          cases H
          exact K0 (0, s8) rfl _
        · rw [if_neg h10] at H
          refine n_ifF (n_q md_155 rfl) (fun e1 => h10 (of_decide_eq_true e1)) ?_
          refine g_go 4 md_155 (i1 := 3) (ls1 := [some (.ref 199), some (.int 1), some (.int v7)]) rfl ?_
          cases H
          exact K0 (1, s8) rfl _
  · rw [if_neg h1] at H
    refine n_ifT (n_q md_155 rfl) (decide_eq_true h1) ?_
    refine g_go 1 md_155 (i1 := 30) rfl ?_
    obtain ⟨hb2, H⟩ := g_gd H
    cases H
    rw [← Kr _ rfl]
    exact n_iret (n_q md_155 rfl) (Or.inr hb2)
noncomputable def f155_3L (φ : g_S → Option (Int32 × g_S)) (s : g_S) (x1 : Int32) : Option (Int32 × g_S) := g_run (fun S : Int32 × g_S => f155_3 φ S.2 S.1) (x1, s)
theorem f155_3L_eq (φ : g_S → Option (Int32 × g_S)) (s : g_S) (x1 : Int32) : f155_3L φ s x1 = g_st (f155_3 φ s x1) (fun S => f155_3L φ S.2 S.1) := by
  unfold f155_3L
  exact g_run_eq _ _
theorem P155_3L {d ex : Nat} {L : Nat} {φ : g_S → Option (Int32 × g_S)} {s : g_S} {x1 : Int32} {u2 : Option Value}   {z : (Int32 × g_S)} (H : f155_3L φ s x1 = some z) (hL : 46 ≤ L) (hφ : ∀ d1, L ≤ d1 → ∀ {ex : Nat} {s : g_S} {z}, φ s = some z → n_C X d1 154 [.ref 199] (g_M s ex) (g_rSI z ex)) (hd : L + 0 ≤ d)  : n_R X (d + 1) 155 3 [some (.ref 199), some (.int x1), u2] [] (g_M s ex) (g_rSI z ex) := by
  unfold f155_3L at H
  refine g_rs (Q := fun S => ∀ u2 : Option Value, n_R X (d + 1) 155 3 [some (.ref 199), some (.int S.1), u2] [] (g_M S.2 ex) (g_rSI z ex)) H ?_ u2
  intro S w hb K0 KK u2
  refine P155_3 hb hL hφ hd ?_ ?_
  · exact fun S1 e1 => K0 S1 e1
  · exact fun q e1 => by rw [KK q e1]
noncomputable def f155 (φ : g_S → Option (Int32 × g_S)) (s : g_S) : Option (Int32 × g_S) := (g_bd (φ s) fun v1 s2 => f155_3L φ s2 v1)
theorem C155 {d ex : Nat} {L : Nat} {φ : g_S → Option (Int32 × g_S)} {s : g_S}  {z : Int32 × g_S} (hL : 46 ≤ L) (hφ : ∀ d1, L ≤ d1 → ∀ {ex : Nat} {s : g_S} {z}, φ s = some z → n_C X d1 154 [.ref 199] (g_M s ex) (g_rSI z ex)) (hd : L + 0 < d) (H : f155 φ s = some z) : n_C X d 155 [.ref 199] (g_M s ex) (g_rSI z ex) := by
  obtain ⟨d, rfl⟩ : ∃ d1, d = d1 + 1 := ⟨d - 1, by omega⟩
  replace hd := Nat.le_of_lt_succ hd
  refine ⟨Nat.le_of_ble_eq_true rfl, ?_⟩
  rw [md_155]
  show n_R X (d + 1) 155 0 [some (.ref 199), none, none] [] (g_M s ex) _
  unfold f155 at H
  refine g_go 1 md_155 (i1 := 1) rfl ?_
  obtain ⟨v1, s2, hv1, H⟩ := g_bdp H
  refine n_callv (n_q md_155 rfl) (As := [.ref 199]) (rest := []) rfl rfl (Nat.le_of_ble_eq_true rfl) rfl (g_recv (b := 0) rfl t_199 rfl) (hφ _ (by omega) hv1) ?_
  refine g_go 1 md_155 (i1 := 3) (ls1 := [some (.ref 199), some (.int v1), none]) rfl ?_
  exact P155_3L H hL hφ hd

theorem md_156 : m_md 156 = m_X8_ors := rfl
noncomputable def f156_3 (φ : g_S → Option (Int32 × g_S)) (s : g_S) (x1 : Int32) : Option ((Int32 × g_S) ⊕ (Int32 × g_S)) := (if (s 199 6) = 0 then (g_bd (f146 s 15 18 0 0 0 0) fun v2 s3 => if v2 = 0 then (if m_isb x1 = true then some (.inr ((x1, s3))) else none) else ((f147 s3).bind fun s6 => g_bd (f155 φ s6) fun v7 s8 => if x1 = 0 then (if v7 = 0 then (some (.inl (0, s8))) else (some (.inl (1, s8)))) else (some (.inl (1, s8))))) else (if m_isb x1 = true then some (.inr ((x1, s))) else none))
theorem P156_3 {d ex : Nat} {rr : m_R} {L : Nat} {φ : g_S → Option (Int32 × g_S)} {s : g_S} {x1 : Int32} {u2 : Option Value}   {z : ((Int32 × g_S) ⊕ (Int32 × g_S))} (H : f156_3 φ s x1 = some z) (hL : 46 ≤ L) (hφ : ∀ d1, L ≤ d1 → ∀ {ex : Nat} {s : g_S} {z}, φ s = some z → n_C X d1 154 [.ref 199] (g_M s ex) (g_rSI z ex)) (hd : L + 1 ≤ d) (K0 : ∀ S : Int32 × g_S, z = .inl S → ∀ u2 : Option Value, n_R X (d + 1) 156 3 [some (.ref 199), some (.int S.1), u2] [] (g_M S.2 ex) rr) (Kr : ∀ q, z = .inr (q) → g_rSI q ex = rr) : n_R X (d + 1) 156 3 [some (.ref 199), some (.int x1), u2] [] (g_M s ex) rr := by
  unfold f156_3 at H
  refine g_go 1 md_156 (i1 := 4) rfl ?_
  refine g_getf (n_q md_156 rfl) t_199 rfl ?_
  by_cases h1 : (s 199 6) = 0
  · rw [if_pos h1] at H
    refine n_ifF (n_q md_156 rfl) (fun e1 => of_decide_eq_true e1 h1) ?_
    refine g_go 7 md_156 (i1 := 13) rfl ?_
    obtain ⟨v2, s3, hv2, H⟩ := g_bdp H
    refine n_callv (n_q md_156 rfl) (As := [.ref 199, .int 15, .int 18, .int 0, .int 0, .int 0, .int 0]) (rest := []) rfl rfl (Nat.le_of_ble_eq_true rfl) rfl (g_recv (b := 0) rfl t_199 rfl) (C146 (by omega) hv2) ?_
    by_cases h4 : v2 = 0
    · rw [if_pos h4] at H
      refine n_ifT (n_q md_156 rfl) (decide_eq_true h4) ?_
      refine g_go 1 md_156 (i1 := 30) rfl ?_
      obtain ⟨hb5, H⟩ := g_gd H
      cases H
      rw [← Kr _ rfl]
      exact n_iret (n_q md_156 rfl) (Or.inr hb5)
    · rw [if_neg h4] at H
      refine n_ifF (n_q md_156 rfl) (fun e1 => h4 (of_decide_eq_true e1)) ?_
      refine g_go 1 md_156 (i1 := 16) rfl ?_
      obtain ⟨s6, hs6, H⟩ := g_bind H
      refine n_call (n_q md_156 rfl) (As := [.ref 199]) (rest := []) rfl rfl (Nat.le_of_ble_eq_true rfl) rfl (g_recv (b := 0) rfl t_199 rfl) (C147 (by omega) hs6) ?_
      refine g_go 1 md_156 (i1 := 18) rfl ?_
      obtain ⟨v7, s8, hv7, H⟩ := g_bdp H
      refine n_callv (n_q md_156 rfl) (As := [.ref 199]) (rest := []) rfl rfl (Nat.le_of_ble_eq_true rfl) rfl (g_recv (b := 0) rfl t_199 rfl) (C155 hL hφ (by omega) hv7) ?_
      refine g_go 2 md_156 (i1 := 21) (ls1 := [some (.ref 199), some (.int x1), some (.int v7)]) rfl ?_
      by_cases h9 : x1 = 0
      · rw [if_pos h9] at H
        refine n_ifF (n_q md_156 rfl) (fun e1 => of_decide_eq_true e1 h9) ?_
        refine g_go 1 md_156 (i1 := 23) rfl ?_
        by_cases h10 : v7 = 0
        · rw [if_pos h10] at H
          refine n_ifT (n_q md_156 rfl) (decide_eq_true h10) ?_
          refine g_go 3 md_156 (i1 := 3) (ls1 := [some (.ref 199), some (.int 0), some (.int v7)]) rfl ?_
          cases H
          exact K0 (0, s8) rfl _
        · rw [if_neg h10] at H
          refine n_ifF (n_q md_156 rfl) (fun e1 => h10 (of_decide_eq_true e1)) ?_
          refine g_go 4 md_156 (i1 := 3) (ls1 := [some (.ref 199), some (.int 1), some (.int v7)]) rfl ?_
          cases H
          exact K0 (1, s8) rfl _
      · rw [if_neg h9] at H
        refine n_ifT (n_q md_156 rfl) (decide_eq_true h9) ?_
        refine g_go 4 md_156 (i1 := 3) (ls1 := [some (.ref 199), some (.int 1), some (.int v7)]) rfl ?_
        cases H
        exact K0 (1, s8) rfl _
  · rw [if_neg h1] at H
    refine n_ifT (n_q md_156 rfl) (decide_eq_true h1) ?_
    refine g_go 1 md_156 (i1 := 30) rfl ?_
    obtain ⟨hb2, H⟩ := g_gd H
    cases H
    rw [← Kr _ rfl]
    exact n_iret (n_q md_156 rfl) (Or.inr hb2)
noncomputable def f156_3L (φ : g_S → Option (Int32 × g_S)) (s : g_S) (x1 : Int32) : Option (Int32 × g_S) := g_run (fun S : Int32 × g_S => f156_3 φ S.2 S.1) (x1, s)
theorem f156_3L_eq (φ : g_S → Option (Int32 × g_S)) (s : g_S) (x1 : Int32) : f156_3L φ s x1 = g_st (f156_3 φ s x1) (fun S => f156_3L φ S.2 S.1) := by
  unfold f156_3L
  exact g_run_eq _ _
theorem P156_3L {d ex : Nat} {L : Nat} {φ : g_S → Option (Int32 × g_S)} {s : g_S} {x1 : Int32} {u2 : Option Value}   {z : (Int32 × g_S)} (H : f156_3L φ s x1 = some z) (hL : 46 ≤ L) (hφ : ∀ d1, L ≤ d1 → ∀ {ex : Nat} {s : g_S} {z}, φ s = some z → n_C X d1 154 [.ref 199] (g_M s ex) (g_rSI z ex)) (hd : L + 1 ≤ d)  : n_R X (d + 1) 156 3 [some (.ref 199), some (.int x1), u2] [] (g_M s ex) (g_rSI z ex) := by
  unfold f156_3L at H
  refine g_rs (Q := fun S => ∀ u2 : Option Value, n_R X (d + 1) 156 3 [some (.ref 199), some (.int S.1), u2] [] (g_M S.2 ex) (g_rSI z ex)) H ?_ u2
  intro S w hb K0 KK u2
  refine P156_3 hb hL hφ hd ?_ ?_
  · exact fun S1 e1 => K0 S1 e1
  · exact fun q e1 => by rw [KK q e1]
noncomputable def f156 (φ : g_S → Option (Int32 × g_S)) (s : g_S) : Option (Int32 × g_S) := (g_bd (f155 φ s) fun v1 s2 => f156_3L φ s2 v1)
theorem C156 {d ex : Nat} {L : Nat} {φ : g_S → Option (Int32 × g_S)} {s : g_S}  {z : Int32 × g_S} (hL : 46 ≤ L) (hφ : ∀ d1, L ≤ d1 → ∀ {ex : Nat} {s : g_S} {z}, φ s = some z → n_C X d1 154 [.ref 199] (g_M s ex) (g_rSI z ex)) (hd : L + 1 < d) (H : f156 φ s = some z) : n_C X d 156 [.ref 199] (g_M s ex) (g_rSI z ex) := by
  obtain ⟨d, rfl⟩ : ∃ d1, d = d1 + 1 := ⟨d - 1, by omega⟩
  replace hd := Nat.le_of_lt_succ hd
  refine ⟨Nat.le_of_ble_eq_true rfl, ?_⟩
  rw [md_156]
  show n_R X (d + 1) 156 0 [some (.ref 199), none, none] [] (g_M s ex) _
  unfold f156 at H
  refine g_go 1 md_156 (i1 := 1) rfl ?_
  obtain ⟨v1, s2, hv1, H⟩ := g_bdp H
  refine n_callv (n_q md_156 rfl) (As := [.ref 199]) (rest := []) rfl rfl (Nat.le_of_ble_eq_true rfl) rfl (g_recv (b := 0) rfl t_199 rfl) (C155 hL hφ (by omega) hv1) ?_
  refine g_go 1 md_156 (i1 := 3) (ls1 := [some (.ref 199), some (.int v1), none]) rfl ?_
  exact P156_3L H hL hφ hd

theorem md_154 : m_md 154 = m_X8_test := rfl
noncomputable def f154_79 (φ : g_S → Option (Int32 × g_S)) (s : g_S) (x1 : Int32) (x2 : Int32) : Option (Int32 × g_S) := (g_let (g_w s 199 4 ((s 199 4) + 1)) fun s1 => g_bd (f153c s1) fun v2 s3 => if x2 = 60 then (if x1 < v2 then (some ((1, s3))) else (some ((0, s3)))) else (if x2 = 62 then (if v2 < x1 then (some ((1, s3))) else (some ((0, s3)))) else (if x1 = v2 then (some ((1, s3))) else (some ((0, s3))))))
theorem P154_79 {d ex : Nat} {L : Nat} {φ : g_S → Option (Int32 × g_S)} {s : g_S} {x1 : Int32} {x2 : Int32} {u3 : Option Value}   {z : (Int32 × g_S)} (H : f154_79 φ s x1 x2 = some z) (hL : 46 ≤ L) (hφ : ∀ d1, L ≤ d1 → ∀ {ex : Nat} {s : g_S} {z}, φ s = some z → n_C X d1 154 [.ref 199] (g_M s ex) (g_rSI z ex)) (hd : L + 2 ≤ d)  : n_R X (d + 1) 154 79 [some (.ref 199), some (.int x1), some (.int x2), u3] [] (g_M s ex) (g_rSI z ex) := by
  unfold f154_79 at H
  refine g_go 2 md_154 (i1 := 81) rfl ?_
  refine g_getf (n_q md_154 rfl) t_199 rfl ?_
  refine g_go 2 md_154 (i1 := 84) rfl ?_
  obtain ⟨s1, es1, H⟩ := g_letp H
  refine g_putf (n_q md_154 rfl) t_199 rfl rfl es1 ?_
  refine g_go 1 md_154 (i1 := 86) rfl ?_
  obtain ⟨v2, s3, hv2, H⟩ := g_bdp H
  refine n_callv (n_q md_154 rfl) (As := [.ref 199]) (rest := []) rfl rfl (Nat.le_of_ble_eq_true rfl) rfl (g_recv (b := 0) rfl t_199 rfl) (C153c (by omega) hv2) ?_
  refine g_go 3 md_154 (i1 := 90) (ls1 := [some (.ref 199), some (.int x1), some (.int x2), some (.int v2)]) rfl ?_
  by_cases h4 : x2 = 60
  · rw [if_pos h4] at H
    refine n_cmpF (n_q md_154 rfl) (fun e1 => of_decide_eq_true e1 h4) ?_
    refine g_go 2 md_154 (i1 := 93) rfl ?_
    by_cases h5 : x1 < v2
    · rw [if_pos h5] at H
      refine n_cmpF (n_q md_154 rfl) (fun e1 => absurd (of_decide_eq_true e1) (Int32.not_le.mpr h5)) ?_
      refine g_go 2 md_154 (i1 := 114) rfl ?_
      cases H
      exact n_iret (n_q md_154 rfl) (Or.inr rfl)
    · rw [if_neg h5] at H
      refine n_cmpT (n_q md_154 rfl) (decide_eq_true (Int32.not_lt.mp h5)) ?_
      refine g_go 2 md_154 (i1 := 114) rfl ?_
      cases H
      exact n_iret (n_q md_154 rfl) (Or.inr rfl)
  · rw [if_neg h4] at H
    refine n_cmpT (n_q md_154 rfl) (decide_eq_true h4) ?_
    refine g_go 2 md_154 (i1 := 100) rfl ?_
    by_cases h5 : x2 = 62
    · rw [if_pos h5] at H
      refine n_cmpF (n_q md_154 rfl) (fun e1 => of_decide_eq_true e1 h5) ?_
      refine g_go 2 md_154 (i1 := 103) rfl ?_
      by_cases h6 : v2 < x1
      · rw [if_pos h6] at H
        refine n_cmpF (n_q md_154 rfl) (fun e1 => absurd (of_decide_eq_true e1) (Int32.not_le.mpr h6)) ?_
        refine g_go 2 md_154 (i1 := 114) rfl ?_
        cases H
        exact n_iret (n_q md_154 rfl) (Or.inr rfl)
      · rw [if_neg h6] at H
        refine n_cmpT (n_q md_154 rfl) (decide_eq_true (Int32.not_lt.mp h6)) ?_
        refine g_go 2 md_154 (i1 := 114) rfl ?_
        cases H
        exact n_iret (n_q md_154 rfl) (Or.inr rfl)
    · rw [if_neg h5] at H
      refine n_cmpT (n_q md_154 rfl) (decide_eq_true h5) ?_
      refine g_go 2 md_154 (i1 := 110) rfl ?_
      by_cases h6 : x1 = v2
      · rw [if_pos h6] at H
        refine n_cmpF (n_q md_154 rfl) (fun e1 => of_decide_eq_true e1 h6) ?_
        refine g_go 2 md_154 (i1 := 114) rfl ?_
        cases H
        exact n_iret (n_q md_154 rfl) (Or.inr rfl)
      · rw [if_neg h6] at H
        refine n_cmpT (n_q md_154 rfl) (decide_eq_true h6) ?_
        refine g_go 1 md_154 (i1 := 114) rfl ?_
        cases H
        exact n_iret (n_q md_154 rfl) (Or.inr rfl)
noncomputable def f154_23 (φ : g_S → Option (Int32 × g_S)) (s : g_S) (y0 : Int32) : Option (Int32 × g_S) := (g_let (g_w s 199 5 ((s 199 5) - 1)) fun s1 => if m_isb y0 = true then some ((y0, s1)) else none)
theorem P154_23 {d ex : Nat} {L : Nat} {φ : g_S → Option (Int32 × g_S)} {s : g_S} {y0 : Int32} {u1 u2 u3 : Option Value}   {z : (Int32 × g_S)} (H : f154_23 φ s y0 = some z) (hL : 46 ≤ L) (hφ : ∀ d1, L ≤ d1 → ∀ {ex : Nat} {s : g_S} {z}, φ s = some z → n_C X d1 154 [.ref 199] (g_M s ex) (g_rSI z ex)) (hd : L + 2 ≤ d)  : n_R X (d + 1) 154 23 [some (.ref 199), u1, u2, u3] [.int y0] (g_M s ex) (g_rSI z ex) := by
  unfold f154_23 at H
  refine g_go 3 md_154 (i1 := 26) (ls1 := [some (.ref 199), some (.int y0), u2, u3]) rfl ?_
  refine g_getf (n_q md_154 rfl) t_199 rfl ?_
  refine g_go 2 md_154 (i1 := 29) rfl ?_
  obtain ⟨s1, es1, H⟩ := g_letp H
  refine g_putf (n_q md_154 rfl) t_199 rfl rfl es1 ?_
  refine g_go 1 md_154 (i1 := 31) rfl ?_
  obtain ⟨hb2, H⟩ := g_gd H
  cases H
  exact n_iret (n_q md_154 rfl) (Or.inr hb2)
noncomputable def f154 (φ : g_S → Option (Int32 × g_S)) (s : g_S) : Option (Int32 × g_S) := (if (s 199 6) = 0 then (g_bd (f146 s 14 15 20 0 0 0) fun v2 s3 => if v2 = 0 then ((f138 s3 (s3 199 4)).bind fun v5 => if v5 = 91 then ((f149 s3 1).bind fun s8 => g_bd (f156 φ s8) fun v9 s10 => (f148 s10 93).bind fun s12 => g_let (g_w s12 199 5 ((s12 199 5) - 1)) fun s13 => if m_isb v9 = true then some ((v9, s13)) else none) else (g_bd (f153c s3) fun v7 s8 => (f139 s8).bind fun s10 => (f138 s10 (s10 199 4)).bind fun v11 => if v11 = 60 then (f154_79 φ s10 v7 v11) else (if v11 = 62 then (f154_79 φ s10 v7 v11) else (if v11 = 61 then (f154_79 φ s10 v7 v11) else ((f140 s10 1 (s10 199 4)).bind fun s16 => f154_79 φ s16 v7 v11))))) else ((f149 s3 3).bind fun s6 => g_bd (φ s6) fun v7 s8 => if v7 = 0 then (f154_23 φ s8 1) else (f154_23 φ s8 0))) else (some ((0, s))))
theorem C154 {d ex : Nat} {L : Nat} {φ : g_S → Option (Int32 × g_S)} {s : g_S}  {z : Int32 × g_S} (hL : 46 ≤ L) (hφ : ∀ d1, L ≤ d1 → ∀ {ex : Nat} {s : g_S} {z}, φ s = some z → n_C X d1 154 [.ref 199] (g_M s ex) (g_rSI z ex)) (hd : L + 2 < d) (H : f154 φ s = some z) : n_C X d 154 [.ref 199] (g_M s ex) (g_rSI z ex) := by
  obtain ⟨d, rfl⟩ : ∃ d1, d = d1 + 1 := ⟨d - 1, by omega⟩
  replace hd := Nat.le_of_lt_succ hd
  refine ⟨Nat.le_of_ble_eq_true rfl, ?_⟩
  rw [md_154]
  show n_R X (d + 1) 154 0 [some (.ref 199), none, none, none] [] (g_M s ex) _
  unfold f154 at H
  refine g_go 1 md_154 (i1 := 1) rfl ?_
  refine g_getf (n_q md_154 rfl) t_199 rfl ?_
  by_cases h1 : (s 199 6) = 0
  · rw [if_pos h1] at H
    refine n_ifT (n_q md_154 rfl) (decide_eq_true h1) ?_
    refine g_go 7 md_154 (i1 := 12) rfl ?_
    obtain ⟨v2, s3, hv2, H⟩ := g_bdp H
    refine n_callv (n_q md_154 rfl) (As := [.ref 199, .int 14, .int 15, .int 20, .int 0, .int 0, .int 0]) (rest := []) rfl rfl (Nat.le_of_ble_eq_true rfl) rfl (g_recv (b := 0) rfl t_199 rfl) (C146 (by omega) hv2) ?_
    by_cases h4 : v2 = 0
    · rw [if_pos h4] at H
      refine n_ifT (n_q md_154 rfl) (decide_eq_true h4) ?_
      refine g_go 2 md_154 (i1 := 34) rfl ?_
      refine g_getf (n_q md_154 rfl) t_199 rfl ?_
      obtain ⟨v5, hv5, H⟩ := g_bind H
      refine n_callv (n_q md_154 rfl) (As := [.ref 199, .int (s3 199 4)]) (rest := []) rfl rfl (Nat.le_of_ble_eq_true rfl) rfl (g_recv (b := 0) rfl t_199 rfl) (C138 (by omega) hv5) ?_
      refine g_go 1 md_154 (i1 := 37) rfl ?_
      by_cases h6 : v5 = 91
      · rw [if_pos h6] at H
        refine n_cmpF (n_q md_154 rfl) (fun e1 => of_decide_eq_true e1 h6) ?_
        refine g_go 2 md_154 (i1 := 40) rfl ?_
        obtain ⟨s8, hs8, H⟩ := g_bind H
        refine n_call (n_q md_154 rfl) (As := [.ref 199, .int 1]) (rest := []) rfl rfl (Nat.le_of_ble_eq_true rfl) rfl (g_recv (b := 0) rfl t_199 rfl) (C149 (by omega) hs8) ?_
        refine g_go 1 md_154 (i1 := 42) rfl ?_
        obtain ⟨v9, s10, hv9, H⟩ := g_bdp H
        refine n_callv (n_q md_154 rfl) (As := [.ref 199]) (rest := []) rfl rfl (Nat.le_of_ble_eq_true rfl) rfl (g_recv (b := 0) rfl t_199 rfl) (C156 hL hφ (by omega) hv9) ?_
        refine g_go 3 md_154 (i1 := 46) (ls1 := [some (.ref 199), some (.int v9), none, none]) rfl ?_
        obtain ⟨s12, hs12, H⟩ := g_bind H
        refine n_call (n_q md_154 rfl) (As := [.ref 199, .int 93]) (rest := []) rfl rfl (Nat.le_of_ble_eq_true rfl) rfl (g_recv (b := 0) rfl t_199 rfl) (C148 (by omega) hs12) ?_
        refine g_go 2 md_154 (i1 := 49) rfl ?_
        refine g_getf (n_q md_154 rfl) t_199 rfl ?_
        refine g_go 2 md_154 (i1 := 52) rfl ?_
        obtain ⟨s13, es13, H⟩ := g_letp H
        refine g_putf (n_q md_154 rfl) t_199 rfl rfl es13 ?_
        refine g_go 1 md_154 (i1 := 54) rfl ?_
        obtain ⟨hb14, H⟩ := g_gd H
        cases H
        exact n_iret (n_q md_154 rfl) (Or.inr hb14)
      · rw [if_neg h6] at H
        refine n_cmpT (n_q md_154 rfl) (decide_eq_true h6) ?_
        refine g_go 1 md_154 (i1 := 56) rfl ?_
        obtain ⟨v7, s8, hv7, H⟩ := g_bdp H
        refine n_callv (n_q md_154 rfl) (As := [.ref 199]) (rest := []) rfl rfl (Nat.le_of_ble_eq_true rfl) rfl (g_recv (b := 0) rfl t_199 rfl) (C153c (by omega) hv7) ?_
        refine g_go 2 md_154 (i1 := 59) (ls1 := [some (.ref 199), some (.int v7), none, none]) rfl ?_
        obtain ⟨s10, hs10, H⟩ := g_bind H
        refine n_call (n_q md_154 rfl) (As := [.ref 199]) (rest := []) rfl rfl (Nat.le_of_ble_eq_true rfl) rfl (g_recv (b := 0) rfl t_199 rfl) (C139 (by omega) hs10) ?_
        refine g_go 2 md_154 (i1 := 62) rfl ?_
        refine g_getf (n_q md_154 rfl) t_199 rfl ?_
        obtain ⟨v11, hv11, H⟩ := g_bind H
        refine n_callv (n_q md_154 rfl) (As := [.ref 199, .int (s10 199 4)]) (rest := []) rfl rfl (Nat.le_of_ble_eq_true rfl) rfl (g_recv (b := 0) rfl t_199 rfl) (C138 (by omega) hv11) ?_
        refine g_go 3 md_154 (i1 := 67) (ls1 := [some (.ref 199), some (.int v7), some (.int v11), none]) rfl ?_
        by_cases h12 : v11 = 60
        · rw [if_pos h12] at H
          refine n_cmpT (n_q md_154 rfl) (decide_eq_true h12) ?_
          exact P154_79 H hL hφ hd
        · rw [if_neg h12] at H
          refine n_cmpF (n_q md_154 rfl) (fun e1 => h12 (of_decide_eq_true e1)) ?_
          refine g_go 2 md_154 (i1 := 70) rfl ?_
          by_cases h13 : v11 = 62
          · rw [if_pos h13] at H
            refine n_cmpT (n_q md_154 rfl) (decide_eq_true h13) ?_
            exact P154_79 H hL hφ hd
          · rw [if_neg h13] at H
            refine n_cmpF (n_q md_154 rfl) (fun e1 => h13 (of_decide_eq_true e1)) ?_
            refine g_go 2 md_154 (i1 := 73) rfl ?_
            by_cases h14 : v11 = 61
            · rw [if_pos h14] at H
              refine n_cmpT (n_q md_154 rfl) (decide_eq_true h14) ?_
              exact P154_79 H hL hφ hd
            · rw [if_neg h14] at H
              refine n_cmpF (n_q md_154 rfl) (fun e1 => h14 (of_decide_eq_true e1)) ?_
              refine g_go 3 md_154 (i1 := 77) rfl ?_
              refine g_getf (n_q md_154 rfl) t_199 rfl ?_
              obtain ⟨s16, hs16, H⟩ := g_bind H
              refine n_call (n_q md_154 rfl) (As := [.ref 199, .int 1, .int (s10 199 4)]) (rest := []) rfl rfl (Nat.le_of_ble_eq_true rfl) rfl (g_recv (b := 0) rfl t_199 rfl) (C140 (by omega) hs16) ?_
              exact P154_79 H hL hφ hd
    · rw [if_neg h4] at H
      refine n_ifF (n_q md_154 rfl) (fun e1 => h4 (of_decide_eq_true e1)) ?_
      refine g_go 2 md_154 (i1 := 16) rfl ?_
      obtain ⟨s6, hs6, H⟩ := g_bind H
      refine n_call (n_q md_154 rfl) (As := [.ref 199, .int 3]) (rest := []) rfl rfl (Nat.le_of_ble_eq_true rfl) rfl (g_recv (b := 0) rfl t_199 rfl) (C149 (by omega) hs6) ?_
      refine g_go 1 md_154 (i1 := 18) rfl ?_
      obtain ⟨v7, s8, hv7, H⟩ := g_bdp H
      refine n_callv (n_q md_154 rfl) (As := [.ref 199]) (rest := []) rfl rfl (Nat.le_of_ble_eq_true rfl) rfl (g_recv (b := 0) rfl t_199 rfl) (hφ _ (by omega) hv7) ?_
      by_cases h9 : v7 = 0
      · rw [if_pos h9] at H
        refine n_ifF (n_q md_154 rfl) (fun e1 => of_decide_eq_true e1 h9) ?_
        refine g_go 2 md_154 (i1 := 23) rfl ?_
        exact P154_23 H hL hφ hd
      · rw [if_neg h9] at H
        refine n_ifT (n_q md_154 rfl) (decide_eq_true h9) ?_
        refine g_go 1 md_154 (i1 := 23) rfl ?_
        exact P154_23 H hL hφ hd
  · rw [if_neg h1] at H
    refine n_ifF (n_q md_154 rfl) (fun e1 => h1 (of_decide_eq_true e1)) ?_
    refine g_go 1 md_154 (i1 := 4) rfl ?_
    cases H
    exact n_iret (n_q md_154 rfl) (Or.inr rfl)

/-- the knot: m_X8_test by fuel -/
noncomputable def g154 : Nat → g_S → Option (Int32 × g_S)
  | 0 => fun _ => none
  | n + 1 => fun s => f154 (g154 n) s
theorem G154 : ∀ n d1 : Nat, 46 + 3 * n ≤ d1 → ∀ {ex : Nat} {s : g_S} {z}, g154 n s = some z → n_C X d1 154 [.ref 199] (g_M s ex) (g_rSI z ex)
  | 0, _, _, _, _, _, h => by cases h
  | n + 1, d1, hd, ex, s, z, h => C154 (L := 46 + 3 * n) (φ := g154 n) (by omega) (fun d2 h2 => G154 n d2 h2) (by omega) h
noncomputable def f154c (s : g_S) : Option (Int32 × g_S) := f154 (g154 9) s
theorem C154c {d ex : Nat} {s : g_S} {z : Int32 × g_S} (hd : 75 < d) (H : f154c s = some z) : n_C X d 154 [.ref 199] (g_M s ex) (g_rSI z ex) := C154 (L := 73) (φ := g154 9) (by omega) (fun d2 h2 => G154 9 d2 (by omega)) (by omega) H
noncomputable def f155c (s : g_S) : Option (Int32 × g_S) := f155 (g154 9) s
theorem C155c {d ex : Nat} {s : g_S} {z : Int32 × g_S} (hd : 73 < d) (H : f155c s = some z) : n_C X d 155 [.ref 199] (g_M s ex) (g_rSI z ex) := C155 (L := 73) (φ := g154 9) (by omega) (fun d2 h2 => G154 9 d2 (by omega)) (by omega) H
noncomputable def f156c (s : g_S) : Option (Int32 × g_S) := f156 (g154 9) s
theorem C156c {d ex : Nat} {s : g_S} {z : Int32 × g_S} (hd : 74 < d) (H : f156c s = some z) : n_C X d 156 [.ref 199] (g_M s ex) (g_rSI z ex) := C156 (L := 73) (φ := g154 9) (by omega) (fun d2 h2 => G154 9 d2 (by omega)) (by omega) H

theorem md_157 : m_md 157 = m_X8_keepingHere := rfl
noncomputable def f157 (s : g_S) : Option (Int32 × g_S) := (g_bd (f146 s 6 18 5 5 0 0) fun v1 s2 => if v1 = 0 then (g_bd (f146 s2 16 1 9 4 0 0) fun v4 s5 => if v4 = 0 then (g_bd (f146 s5 12 5 14 20 0 0) fun v7 s8 => if v7 = 0 then (g_bd (f146 s8 8 9 18 5 4 0) fun v10 s11 => if v10 = 0 then (g_bd (f146 s11 16 12 5 4 7 5) fun v13 s14 => if v13 = 0 then (g_bd (f146 s14 23 15 18 11 0 0) fun v16 s17 => if v16 = 0 then (g_bd (f146 s17 1 14 25 0 0 0) fun v19 s20 => if v19 = 0 then (some (((-1), s20))) else (some ((6, s20)))) else (some ((5, s17)))) else (some ((4, s14)))) else (some ((3, s11)))) else (some ((2, s8)))) else (some ((1, s5)))) else (some ((0, s2))))
theorem C157 {d ex : Nat} {s : g_S}  {z : Int32 × g_S} (hd : 16 < d) (H : f157 s = some z) : n_C X d 157 [.ref 199] (g_M s ex) (g_rSI z ex) := by
  obtain ⟨d, rfl⟩ : ∃ d1, d = d1 + 1 := ⟨d - 1, by omega⟩
  replace hd := Nat.le_of_lt_succ hd
  refine ⟨Nat.le_of_ble_eq_true rfl, ?_⟩
  rw [md_157]
  show n_R X (d + 1) 157 0 [some (.ref 199)] [] (g_M s ex) _
  unfold f157 at H
  refine g_go 7 md_157 (i1 := 7) rfl ?_
  obtain ⟨v1, s2, hv1, H⟩ := g_bdp H
  refine n_callv (n_q md_157 rfl) (As := [.ref 199, .int 6, .int 18, .int 5, .int 5, .int 0, .int 0]) (rest := []) rfl rfl (Nat.le_of_ble_eq_true rfl) rfl (g_recv (b := 0) rfl t_199 rfl) (C146 (by omega) hv1) ?_
  by_cases h3 : v1 = 0
  · rw [if_pos h3] at H
    refine n_ifT (n_q md_157 rfl) (decide_eq_true h3) ?_
    refine g_go 7 md_157 (i1 := 18) rfl ?_
    obtain ⟨v4, s5, hv4, H⟩ := g_bdp H
    refine n_callv (n_q md_157 rfl) (As := [.ref 199, .int 16, .int 1, .int 9, .int 4, .int 0, .int 0]) (rest := []) rfl rfl (Nat.le_of_ble_eq_true rfl) rfl (g_recv (b := 0) rfl t_199 rfl) (C146 (by omega) hv4) ?_
    by_cases h6 : v4 = 0
    · rw [if_pos h6] at H
      refine n_ifT (n_q md_157 rfl) (decide_eq_true h6) ?_
      refine g_go 7 md_157 (i1 := 29) rfl ?_
      obtain ⟨v7, s8, hv7, H⟩ := g_bdp H
      refine n_callv (n_q md_157 rfl) (As := [.ref 199, .int 12, .int 5, .int 14, .int 20, .int 0, .int 0]) (rest := []) rfl rfl (Nat.le_of_ble_eq_true rfl) rfl (g_recv (b := 0) rfl t_199 rfl) (C146 (by omega) hv7) ?_
      by_cases h9 : v7 = 0
      · rw [if_pos h9] at H
        refine n_ifT (n_q md_157 rfl) (decide_eq_true h9) ?_
        refine g_go 7 md_157 (i1 := 40) rfl ?_
        obtain ⟨v10, s11, hv10, H⟩ := g_bdp H
        refine n_callv (n_q md_157 rfl) (As := [.ref 199, .int 8, .int 9, .int 18, .int 5, .int 4, .int 0]) (rest := []) rfl rfl (Nat.le_of_ble_eq_true rfl) rfl (g_recv (b := 0) rfl t_199 rfl) (C146 (by omega) hv10) ?_
        by_cases h12 : v10 = 0
        · rw [if_pos h12] at H
          refine n_ifT (n_q md_157 rfl) (decide_eq_true h12) ?_
          refine g_go 7 md_157 (i1 := 51) rfl ?_
          obtain ⟨v13, s14, hv13, H⟩ := g_bdp H
          refine n_callv (n_q md_157 rfl) (As := [.ref 199, .int 16, .int 12, .int 5, .int 4, .int 7, .int 5]) (rest := []) rfl rfl (Nat.le_of_ble_eq_true rfl) rfl (g_recv (b := 0) rfl t_199 rfl) (C146 (by omega) hv13) ?_
          by_cases h15 : v13 = 0
          · rw [if_pos h15] at H
            refine n_ifT (n_q md_157 rfl) (decide_eq_true h15) ?_
            refine g_go 7 md_157 (i1 := 62) rfl ?_
            obtain ⟨v16, s17, hv16, H⟩ := g_bdp H
            refine n_callv (n_q md_157 rfl) (As := [.ref 199, .int 23, .int 15, .int 18, .int 11, .int 0, .int 0]) (rest := []) rfl rfl (Nat.le_of_ble_eq_true rfl) rfl (g_recv (b := 0) rfl t_199 rfl) (C146 (by omega) hv16) ?_
            by_cases h18 : v16 = 0
            · rw [if_pos h18] at H
              refine n_ifT (n_q md_157 rfl) (decide_eq_true h18) ?_
              refine g_go 7 md_157 (i1 := 73) rfl ?_
              obtain ⟨v19, s20, hv19, H⟩ := g_bdp H
              refine n_callv (n_q md_157 rfl) (As := [.ref 199, .int 1, .int 14, .int 25, .int 0, .int 0, .int 0]) (rest := []) rfl rfl (Nat.le_of_ble_eq_true rfl) rfl (g_recv (b := 0) rfl t_199 rfl) (C146 (by omega) hv19) ?_
              by_cases h21 : v19 = 0
              · rw [if_pos h21] at H
                refine n_ifT (n_q md_157 rfl) (decide_eq_true h21) ?_
                refine g_go 1 md_157 (i1 := 78) rfl ?_
                cases H
                exact n_iret (n_q md_157 rfl) (Or.inl rfl)
              · rw [if_neg h21] at H
                refine n_ifF (n_q md_157 rfl) (fun e1 => h21 (of_decide_eq_true e1)) ?_
                refine g_go 2 md_157 (i1 := 78) rfl ?_
                cases H
                exact n_iret (n_q md_157 rfl) (Or.inl rfl)
            · rw [if_neg h18] at H
              refine n_ifF (n_q md_157 rfl) (fun e1 => h18 (of_decide_eq_true e1)) ?_
              refine g_go 1 md_157 (i1 := 65) rfl ?_
              cases H
              exact n_iret (n_q md_157 rfl) (Or.inl rfl)
          · rw [if_neg h15] at H
            refine n_ifF (n_q md_157 rfl) (fun e1 => h15 (of_decide_eq_true e1)) ?_
            refine g_go 1 md_157 (i1 := 54) rfl ?_
            cases H
            exact n_iret (n_q md_157 rfl) (Or.inl rfl)
        · rw [if_neg h12] at H
          refine n_ifF (n_q md_157 rfl) (fun e1 => h12 (of_decide_eq_true e1)) ?_
          refine g_go 1 md_157 (i1 := 43) rfl ?_
          cases H
          exact n_iret (n_q md_157 rfl) (Or.inl rfl)
      · rw [if_neg h9] at H
        refine n_ifF (n_q md_157 rfl) (fun e1 => h9 (of_decide_eq_true e1)) ?_
        refine g_go 1 md_157 (i1 := 32) rfl ?_
        cases H
        exact n_iret (n_q md_157 rfl) (Or.inl rfl)
    · rw [if_neg h6] at H
      refine n_ifF (n_q md_157 rfl) (fun e1 => h6 (of_decide_eq_true e1)) ?_
      refine g_go 1 md_157 (i1 := 21) rfl ?_
      cases H
      exact n_iret (n_q md_157 rfl) (Or.inl rfl)
  · rw [if_neg h3] at H
    refine n_ifF (n_q md_157 rfl) (fun e1 => h3 (of_decide_eq_true e1)) ?_
    refine g_go 1 md_157 (i1 := 10) rfl ?_
    cases H
    exact n_iret (n_q md_157 rfl) (Or.inl rfl)

theorem md_158 : m_md 158 = m_X8_harmHere := rfl
noncomputable def f158 (s : g_S) : Option (Int32 × g_S) := (g_bd (f146 s 23 15 18 14 0 0) fun v1 s2 => if v1 = 0 then (g_bd (f146 s2 8 21 18 20 0 0) fun v4 s5 => if v4 = 0 then (g_bd (f146 s5 4 9 5 4 0 0) fun v7 s8 => if v7 = 0 then (g_bd (f146 s8 12 15 19 20 0 0) fun v10 s11 => if v10 = 0 then (g_bd (f146 s11 19 20 15 12 5 14) fun v13 s14 => if v13 = 0 then (g_bd (f146 s14 6 15 18 3 5 4) fun v16 s17 => if v16 = 0 then (g_bd (f146 s17 1 12 12 0 0 0) fun v19 s20 => if v19 = 0 then (some (((-1), s20))) else (some ((6, s20)))) else (some ((5, s17)))) else (some ((4, s14)))) else (some ((3, s11)))) else (some ((2, s8)))) else (some ((1, s5)))) else (some ((0, s2))))
theorem C158 {d ex : Nat} {s : g_S}  {z : Int32 × g_S} (hd : 16 < d) (H : f158 s = some z) : n_C X d 158 [.ref 199] (g_M s ex) (g_rSI z ex) := by
  obtain ⟨d, rfl⟩ : ∃ d1, d = d1 + 1 := ⟨d - 1, by omega⟩
  replace hd := Nat.le_of_lt_succ hd
  refine ⟨Nat.le_of_ble_eq_true rfl, ?_⟩
  rw [md_158]
  show n_R X (d + 1) 158 0 [some (.ref 199)] [] (g_M s ex) _
  unfold f158 at H
  refine g_go 7 md_158 (i1 := 7) rfl ?_
  obtain ⟨v1, s2, hv1, H⟩ := g_bdp H
  refine n_callv (n_q md_158 rfl) (As := [.ref 199, .int 23, .int 15, .int 18, .int 14, .int 0, .int 0]) (rest := []) rfl rfl (Nat.le_of_ble_eq_true rfl) rfl (g_recv (b := 0) rfl t_199 rfl) (C146 (by omega) hv1) ?_
  by_cases h3 : v1 = 0
  · rw [if_pos h3] at H
    refine n_ifT (n_q md_158 rfl) (decide_eq_true h3) ?_
    refine g_go 7 md_158 (i1 := 18) rfl ?_
    obtain ⟨v4, s5, hv4, H⟩ := g_bdp H
    refine n_callv (n_q md_158 rfl) (As := [.ref 199, .int 8, .int 21, .int 18, .int 20, .int 0, .int 0]) (rest := []) rfl rfl (Nat.le_of_ble_eq_true rfl) rfl (g_recv (b := 0) rfl t_199 rfl) (C146 (by omega) hv4) ?_
    by_cases h6 : v4 = 0
    · rw [if_pos h6] at H
      refine n_ifT (n_q md_158 rfl) (decide_eq_true h6) ?_
      refine g_go 7 md_158 (i1 := 29) rfl ?_
      obtain ⟨v7, s8, hv7, H⟩ := g_bdp H
      refine n_callv (n_q md_158 rfl) (As := [.ref 199, .int 4, .int 9, .int 5, .int 4, .int 0, .int 0]) (rest := []) rfl rfl (Nat.le_of_ble_eq_true rfl) rfl (g_recv (b := 0) rfl t_199 rfl) (C146 (by omega) hv7) ?_
      by_cases h9 : v7 = 0
      · rw [if_pos h9] at H
        refine n_ifT (n_q md_158 rfl) (decide_eq_true h9) ?_
        refine g_go 7 md_158 (i1 := 40) rfl ?_
        obtain ⟨v10, s11, hv10, H⟩ := g_bdp H
        refine n_callv (n_q md_158 rfl) (As := [.ref 199, .int 12, .int 15, .int 19, .int 20, .int 0, .int 0]) (rest := []) rfl rfl (Nat.le_of_ble_eq_true rfl) rfl (g_recv (b := 0) rfl t_199 rfl) (C146 (by omega) hv10) ?_
        by_cases h12 : v10 = 0
        · rw [if_pos h12] at H
          refine n_ifT (n_q md_158 rfl) (decide_eq_true h12) ?_
          refine g_go 7 md_158 (i1 := 51) rfl ?_
          obtain ⟨v13, s14, hv13, H⟩ := g_bdp H
          refine n_callv (n_q md_158 rfl) (As := [.ref 199, .int 19, .int 20, .int 15, .int 12, .int 5, .int 14]) (rest := []) rfl rfl (Nat.le_of_ble_eq_true rfl) rfl (g_recv (b := 0) rfl t_199 rfl) (C146 (by omega) hv13) ?_
          by_cases h15 : v13 = 0
          · rw [if_pos h15] at H
            refine n_ifT (n_q md_158 rfl) (decide_eq_true h15) ?_
            refine g_go 7 md_158 (i1 := 62) rfl ?_
            obtain ⟨v16, s17, hv16, H⟩ := g_bdp H
            refine n_callv (n_q md_158 rfl) (As := [.ref 199, .int 6, .int 15, .int 18, .int 3, .int 5, .int 4]) (rest := []) rfl rfl (Nat.le_of_ble_eq_true rfl) rfl (g_recv (b := 0) rfl t_199 rfl) (C146 (by omega) hv16) ?_
            by_cases h18 : v16 = 0
            · rw [if_pos h18] at H
              refine n_ifT (n_q md_158 rfl) (decide_eq_true h18) ?_
              refine g_go 7 md_158 (i1 := 73) rfl ?_
              obtain ⟨v19, s20, hv19, H⟩ := g_bdp H
              refine n_callv (n_q md_158 rfl) (As := [.ref 199, .int 1, .int 12, .int 12, .int 0, .int 0, .int 0]) (rest := []) rfl rfl (Nat.le_of_ble_eq_true rfl) rfl (g_recv (b := 0) rfl t_199 rfl) (C146 (by omega) hv19) ?_
              by_cases h21 : v19 = 0
              · rw [if_pos h21] at H
                refine n_ifT (n_q md_158 rfl) (decide_eq_true h21) ?_
                refine g_go 1 md_158 (i1 := 78) rfl ?_
                cases H
                exact n_iret (n_q md_158 rfl) (Or.inl rfl)
              · rw [if_neg h21] at H
                refine n_ifF (n_q md_158 rfl) (fun e1 => h21 (of_decide_eq_true e1)) ?_
                refine g_go 2 md_158 (i1 := 78) rfl ?_
                cases H
                exact n_iret (n_q md_158 rfl) (Or.inl rfl)
            · rw [if_neg h18] at H
              refine n_ifF (n_q md_158 rfl) (fun e1 => h18 (of_decide_eq_true e1)) ?_
              refine g_go 1 md_158 (i1 := 65) rfl ?_
              cases H
              exact n_iret (n_q md_158 rfl) (Or.inl rfl)
          · rw [if_neg h15] at H
            refine n_ifF (n_q md_158 rfl) (fun e1 => h15 (of_decide_eq_true e1)) ?_
            refine g_go 1 md_158 (i1 := 54) rfl ?_
            cases H
            exact n_iret (n_q md_158 rfl) (Or.inl rfl)
        · rw [if_neg h12] at H
          refine n_ifF (n_q md_158 rfl) (fun e1 => h12 (of_decide_eq_true e1)) ?_
          refine g_go 1 md_158 (i1 := 43) rfl ?_
          cases H
          exact n_iret (n_q md_158 rfl) (Or.inl rfl)
      · rw [if_neg h9] at H
        refine n_ifF (n_q md_158 rfl) (fun e1 => h9 (of_decide_eq_true e1)) ?_
        refine g_go 1 md_158 (i1 := 32) rfl ?_
        cases H
        exact n_iret (n_q md_158 rfl) (Or.inl rfl)
    · rw [if_neg h6] at H
      refine n_ifF (n_q md_158 rfl) (fun e1 => h6 (of_decide_eq_true e1)) ?_
      refine g_go 1 md_158 (i1 := 21) rfl ?_
      cases H
      exact n_iret (n_q md_158 rfl) (Or.inl rfl)
  · rw [if_neg h3] at H
    refine n_ifF (n_q md_158 rfl) (fun e1 => h3 (of_decide_eq_true e1)) ?_
    refine g_go 1 md_158 (i1 := 10) rfl ?_
    cases H
    exact n_iret (n_q md_158 rfl) (Or.inl rfl)

theorem md_159 : m_md 159 = m_X8_harms := rfl
noncomputable def f159_47 (s : g_S) (x1 : Int32) (y0 : Int32) : Option ((Int32 × Int32 × g_S) ⊕ (Int32 × g_S)) := (if y0 = 0 then (some (.inl (x1, (y0, s)))) else (g_let (g_w s 199 4 ((s 199 4) + 1)) fun s2 => some (.inl (x1, (y0, s2)))))
theorem P159_47 {d ex : Nat} {rr : m_R} {s : g_S} {x1 : Int32} {y0 : Int32} {u2 u3 : Option Value}   {z : ((Int32 × Int32 × g_S) ⊕ (Int32 × g_S))} (H : f159_47 s x1 y0 = some z) (hd : 17 ≤ d) (K0 : ∀ S : Int32 × Int32 × g_S, z = .inl S → ∀ u3 : Option Value, n_R X (d + 1) 159 4 [some (.ref 199), some (.int S.1), some (.int S.2.1), u3] [] (g_M S.2.2 ex) rr) (Kr : ∀ q, z = .inr (q) → g_rSI q ex = rr) : n_R X (d + 1) 159 47 [some (.ref 199), some (.int x1), u2, u3] [.int y0] (g_M s ex) rr := by
  unfold f159_47 at H
  refine g_go 2 md_159 (i1 := 49) (ls1 := [some (.ref 199), some (.int x1), some (.int y0), u3]) rfl ?_
  by_cases h1 : y0 = 0
  · rw [if_pos h1] at H
    refine n_ifT (n_q md_159 rfl) (decide_eq_true h1) ?_
    refine g_go 1 md_159 (i1 := 4) rfl ?_
    cases H
    exact K0 (x1, (y0, s)) rfl _
  · rw [if_neg h1] at H
    refine n_ifF (n_q md_159 rfl) (fun e1 => h1 (of_decide_eq_true e1)) ?_
    refine g_go 2 md_159 (i1 := 52) rfl ?_
    refine g_getf (n_q md_159 rfl) t_199 rfl ?_
    refine g_go 2 md_159 (i1 := 55) rfl ?_
    obtain ⟨s2, es2, H⟩ := g_letp H
    refine g_putf (n_q md_159 rfl) t_199 rfl rfl es2 ?_
    refine g_go 1 md_159 (i1 := 4) rfl ?_
    cases H
    exact K0 (x1, (y0, s2)) rfl _
noncomputable def f159_35 (s : g_S) (y0 : Int32) : Option ((Int32 × Int32 × g_S) ⊕ (Int32 × g_S)) := ((f139 s).bind fun s2 => (f138 s2 (s2 199 4)).bind fun v3 => if v3 = 44 then (f159_47 s2 y0 1) else (f159_47 s2 y0 0))
theorem P159_35 {d ex : Nat} {rr : m_R} {s : g_S} {y0 : Int32} {u1 u2 u3 : Option Value}   {z : ((Int32 × Int32 × g_S) ⊕ (Int32 × g_S))} (H : f159_35 s y0 = some z) (hd : 17 ≤ d) (K0 : ∀ S : Int32 × Int32 × g_S, z = .inl S → ∀ u3 : Option Value, n_R X (d + 1) 159 4 [some (.ref 199), some (.int S.1), some (.int S.2.1), u3] [] (g_M S.2.2 ex) rr) (Kr : ∀ q, z = .inr (q) → g_rSI q ex = rr) : n_R X (d + 1) 159 35 [some (.ref 199), u1, u2, u3] [.int y0] (g_M s ex) rr := by
  unfold f159_35 at H
  refine g_go 2 md_159 (i1 := 37) (ls1 := [some (.ref 199), some (.int y0), u2, u3]) rfl ?_
  obtain ⟨s2, hs2, H⟩ := g_bind H
  refine n_call (n_q md_159 rfl) (As := [.ref 199]) (rest := []) rfl rfl (Nat.le_of_ble_eq_true rfl) rfl (g_recv (b := 0) rfl t_199 rfl) (C139 (by omega) hs2) ?_
  refine g_go 2 md_159 (i1 := 40) rfl ?_
  refine g_getf (n_q md_159 rfl) t_199 rfl ?_
  obtain ⟨v3, hv3, H⟩ := g_bind H
  refine n_callv (n_q md_159 rfl) (As := [.ref 199, .int (s2 199 4)]) (rest := []) rfl rfl (Nat.le_of_ble_eq_true rfl) rfl (g_recv (b := 0) rfl t_199 rfl) (C138 (by omega) hv3) ?_
  refine g_go 1 md_159 (i1 := 43) rfl ?_
  by_cases h4 : v3 = 44
  · rw [if_pos h4] at H
    refine n_cmpF (n_q md_159 rfl) (fun e1 => of_decide_eq_true e1 h4) ?_
    refine g_go 2 md_159 (i1 := 47) rfl ?_
    exact P159_47 H hd K0 Kr
  · rw [if_neg h4] at H
    refine n_cmpT (n_q md_159 rfl) (decide_eq_true h4) ?_
    refine g_go 1 md_159 (i1 := 47) rfl ?_
    exact P159_47 H hd K0 Kr
noncomputable def f159_32 (s : g_S) : Option ((Int32 × Int32 × g_S) ⊕ (Int32 × g_S)) := (f159_35 s 1)
theorem P159_32 {d ex : Nat} {rr : m_R} {s : g_S} {u1 u2 u3 : Option Value}   {z : ((Int32 × Int32 × g_S) ⊕ (Int32 × g_S))} (H : f159_32 s = some z) (hd : 17 ≤ d) (K0 : ∀ S : Int32 × Int32 × g_S, z = .inl S → ∀ u3 : Option Value, n_R X (d + 1) 159 4 [some (.ref 199), some (.int S.1), some (.int S.2.1), u3] [] (g_M S.2.2 ex) rr) (Kr : ∀ q, z = .inr (q) → g_rSI q ex = rr) : n_R X (d + 1) 159 32 [some (.ref 199), u1, u2, u3] [] (g_M s ex) rr := by
  unfold f159_32 at H
  refine g_go 2 md_159 (i1 := 35) rfl ?_
  exact P159_35 H hd K0 Kr
noncomputable def f159_23 (s : g_S) (x1 : Int32) (x3 : Int32) : Option ((Int32 × Int32 × g_S) ⊕ (Int32 × g_S)) := (if x1 = 0 then (if x3 = 6 then (f159_32 s) else (if x3 = (s 199 16) then (f159_32 s) else (f159_35 s 0))) else (f159_32 s))
theorem P159_23 {d ex : Nat} {rr : m_R} {s : g_S} {x1 : Int32} {x3 : Int32} {u2 : Option Value}   {z : ((Int32 × Int32 × g_S) ⊕ (Int32 × g_S))} (H : f159_23 s x1 x3 = some z) (hd : 17 ≤ d) (K0 : ∀ S : Int32 × Int32 × g_S, z = .inl S → ∀ u3 : Option Value, n_R X (d + 1) 159 4 [some (.ref 199), some (.int S.1), some (.int S.2.1), u3] [] (g_M S.2.2 ex) rr) (Kr : ∀ q, z = .inr (q) → g_rSI q ex = rr) : n_R X (d + 1) 159 23 [some (.ref 199), some (.int x1), u2, some (.int x3)] [] (g_M s ex) rr := by
  unfold f159_23 at H
  refine g_go 1 md_159 (i1 := 24) rfl ?_
  by_cases h1 : x1 = 0
  · rw [if_pos h1] at H
    refine n_ifF (n_q md_159 rfl) (fun e1 => of_decide_eq_true e1 h1) ?_
    refine g_go 2 md_159 (i1 := 27) rfl ?_
    by_cases h2 : x3 = 6
    · rw [if_pos h2] at H
      refine n_cmpT (n_q md_159 rfl) (decide_eq_true h2) ?_
      exact P159_32 H hd K0 Kr
    · rw [if_neg h2] at H
      refine n_cmpF (n_q md_159 rfl) (fun e1 => h2 (of_decide_eq_true e1)) ?_
      refine g_go 2 md_159 (i1 := 30) rfl ?_
      refine g_getf (n_q md_159 rfl) t_199 rfl ?_
      by_cases h3 : x3 = (s 199 16)
      · rw [if_pos h3] at H
        refine n_cmpF (n_q md_159 rfl) (fun e1 => of_decide_eq_true e1 h3) ?_
        exact P159_32 H hd K0 Kr
      · rw [if_neg h3] at H
        refine n_cmpT (n_q md_159 rfl) (decide_eq_true h3) ?_
        refine g_go 1 md_159 (i1 := 35) rfl ?_
        exact P159_35 H hd K0 Kr
  · rw [if_neg h1] at H
    refine n_ifT (n_q md_159 rfl) (decide_eq_true h1) ?_
    exact P159_32 H hd K0 Kr
noncomputable def f159_4 (s : g_S) (x1 : Int32) (x2 : Int32) : Option ((Int32 × Int32 × g_S) ⊕ (Int32 × g_S)) := (if x2 = 0 then (if m_isb x1 = true then some (.inr ((x1, s))) else none) else (if (s 199 6) = 0 then (g_bd (f158 s) fun v3 s4 => if v3 = ((-1)) then ((f140 s4 1 (s4 199 4)).bind fun s7 => f159_23 s7 x1 v3) else ((f147 s4).bind fun s7 => f159_23 s7 x1 v3)) else (if m_isb x1 = true then some (.inr ((x1, s))) else none)))
theorem P159_4 {d ex : Nat} {rr : m_R} {s : g_S} {x1 : Int32} {x2 : Int32} {u3 : Option Value}   {z : ((Int32 × Int32 × g_S) ⊕ (Int32 × g_S))} (H : f159_4 s x1 x2 = some z) (hd : 17 ≤ d) (K0 : ∀ S : Int32 × Int32 × g_S, z = .inl S → ∀ u3 : Option Value, n_R X (d + 1) 159 4 [some (.ref 199), some (.int S.1), some (.int S.2.1), u3] [] (g_M S.2.2 ex) rr) (Kr : ∀ q, z = .inr (q) → g_rSI q ex = rr) : n_R X (d + 1) 159 4 [some (.ref 199), some (.int x1), some (.int x2), u3] [] (g_M s ex) rr := by
  unfold f159_4 at H
  refine g_go 1 md_159 (i1 := 5) rfl ?_
  by_cases h1 : x2 = 0
  · rw [if_pos h1] at H
    refine n_ifT (n_q md_159 rfl) (decide_eq_true h1) ?_
    refine g_go 1 md_159 (i1 := 58) rfl ?_
    obtain ⟨hb2, H⟩ := g_gd H
    cases H
    rw [← Kr _ rfl]
    exact n_iret (n_q md_159 rfl) (Or.inr hb2)
  · rw [if_neg h1] at H
    refine n_ifF (n_q md_159 rfl) (fun e1 => h1 (of_decide_eq_true e1)) ?_
    refine g_go 1 md_159 (i1 := 7) rfl ?_
    refine g_getf (n_q md_159 rfl) t_199 rfl ?_
    by_cases h2 : (s 199 6) = 0
    · rw [if_pos h2] at H
      refine n_ifF (n_q md_159 rfl) (fun e1 => of_decide_eq_true e1 h2) ?_
      refine g_go 1 md_159 (i1 := 10) rfl ?_
      obtain ⟨v3, s4, hv3, H⟩ := g_bdp H
      refine n_callv (n_q md_159 rfl) (As := [.ref 199]) (rest := []) rfl rfl (Nat.le_of_ble_eq_true rfl) rfl (g_recv (b := 0) rfl t_199 rfl) (C158 (by omega) hv3) ?_
      refine g_go 3 md_159 (i1 := 14) (ls1 := [some (.ref 199), some (.int x1), some (.int x2), some (.int v3)]) rfl ?_
      by_cases h5 : v3 = ((-1))
      · rw [if_pos h5] at H
        refine n_cmpF (n_q md_159 rfl) (fun e1 => of_decide_eq_true e1 h5) ?_
        refine g_go 3 md_159 (i1 := 18) rfl ?_
        refine g_getf (n_q md_159 rfl) t_199 rfl ?_
        obtain ⟨s7, hs7, H⟩ := g_bind H
        refine n_call (n_q md_159 rfl) (As := [.ref 199, .int 1, .int (s4 199 4)]) (rest := []) rfl rfl (Nat.le_of_ble_eq_true rfl) rfl (g_recv (b := 0) rfl t_199 rfl) (C140 (by omega) hs7) ?_
        refine g_go 1 md_159 (i1 := 23) rfl ?_
        exact P159_23 H hd K0 Kr
      · rw [if_neg h5] at H
        refine n_cmpT (n_q md_159 rfl) (decide_eq_true h5) ?_
        refine g_go 1 md_159 (i1 := 22) rfl ?_
        obtain ⟨s7, hs7, H⟩ := g_bind H
        refine n_call (n_q md_159 rfl) (As := [.ref 199]) (rest := []) rfl rfl (Nat.le_of_ble_eq_true rfl) rfl (g_recv (b := 0) rfl t_199 rfl) (C147 (by omega) hs7) ?_
        exact P159_23 H hd K0 Kr
    · rw [if_neg h2] at H
      refine n_ifT (n_q md_159 rfl) (decide_eq_true h2) ?_
      refine g_go 1 md_159 (i1 := 58) rfl ?_
      obtain ⟨hb3, H⟩ := g_gd H
      cases H
      rw [← Kr _ rfl]
      exact n_iret (n_q md_159 rfl) (Or.inr hb3)
noncomputable def f159_4L (s : g_S) (x1 : Int32) (x2 : Int32) : Option (Int32 × g_S) := g_run (fun S : Int32 × Int32 × g_S => f159_4 S.2.2 S.1 S.2.1) (x1, (x2, s))
theorem f159_4L_eq (s : g_S) (x1 : Int32) (x2 : Int32) : f159_4L s x1 x2 = g_st (f159_4 s x1 x2) (fun S => f159_4L S.2.2 S.1 S.2.1) := by
  unfold f159_4L
  exact g_run_eq _ _
theorem P159_4L {d ex : Nat} {s : g_S} {x1 : Int32} {x2 : Int32} {u3 : Option Value}   {z : (Int32 × g_S)} (H : f159_4L s x1 x2 = some z) (hd : 17 ≤ d)  : n_R X (d + 1) 159 4 [some (.ref 199), some (.int x1), some (.int x2), u3] [] (g_M s ex) (g_rSI z ex) := by
  unfold f159_4L at H
  refine g_rs (Q := fun S => ∀ u3 : Option Value, n_R X (d + 1) 159 4 [some (.ref 199), some (.int S.1), some (.int S.2.1), u3] [] (g_M S.2.2 ex) (g_rSI z ex)) H ?_ u3
  intro S w hb K0 KK u3
  refine P159_4 hb hd ?_ ?_
  · exact fun S1 e1 => K0 S1 e1
  · exact fun q e1 => by rw [KK q e1]
noncomputable def f159 (s : g_S) : Option (Int32 × g_S) := (f159_4L s 0 1)
theorem C159 {d ex : Nat} {s : g_S}  {z : Int32 × g_S} (hd : 17 < d) (H : f159 s = some z) : n_C X d 159 [.ref 199] (g_M s ex) (g_rSI z ex) := by
  obtain ⟨d, rfl⟩ : ∃ d1, d = d1 + 1 := ⟨d - 1, by omega⟩
  replace hd := Nat.le_of_lt_succ hd
  refine ⟨Nat.le_of_ble_eq_true rfl, ?_⟩
  rw [md_159]
  show n_R X (d + 1) 159 0 [some (.ref 199), none, none, none] [] (g_M s ex) _
  unfold f159 at H
  refine g_go 4 md_159 (i1 := 4) (ls1 := [some (.ref 199), some (.int 0), some (.int 1), none]) rfl ?_
  exact P159_4L H hd

theorem md_160 : m_md 160 = m_X8_terms := rfl
noncomputable def f160_33 (s : g_S) (x1 : Int32) (y0 : Int32) : Option ((Int32 × Int32 × g_S) ⊕ (Int32 × g_S)) := (if y0 = 0 then (some (.inl (x1, (y0, s)))) else (g_let (g_w s 199 4 ((s 199 4) + 1)) fun s2 => some (.inl (x1, (y0, s2)))))
theorem P160_33 {d ex : Nat} {rr : m_R} {s : g_S} {x1 : Int32} {y0 : Int32} {u2 : Option Value}   {z : ((Int32 × Int32 × g_S) ⊕ (Int32 × g_S))} (H : f160_33 s x1 y0 = some z) (hd : 15 ≤ d) (K0 : ∀ S : Int32 × Int32 × g_S, z = .inl S → n_R X (d + 1) 160 4 [some (.ref 199), some (.int S.1), some (.int S.2.1)] [] (g_M S.2.2 ex) rr) (Kr : ∀ q, z = .inr (q) → g_rSI q ex = rr) : n_R X (d + 1) 160 33 [some (.ref 199), some (.int x1), u2] [.int y0] (g_M s ex) rr := by
  unfold f160_33 at H
  refine g_go 2 md_160 (i1 := 35) (ls1 := [some (.ref 199), some (.int x1), some (.int y0)]) rfl ?_
  by_cases h1 : y0 = 0
  · rw [if_pos h1] at H
    refine n_ifT (n_q md_160 rfl) (decide_eq_true h1) ?_
    cases H
    exact K0 (x1, (y0, s)) rfl
  · rw [if_neg h1] at H
    refine n_ifF (n_q md_160 rfl) (fun e1 => h1 (of_decide_eq_true e1)) ?_
    refine g_go 2 md_160 (i1 := 38) rfl ?_
    refine g_getf (n_q md_160 rfl) t_199 rfl ?_
    refine g_go 2 md_160 (i1 := 41) rfl ?_
    obtain ⟨s2, es2, H⟩ := g_letp H
    refine g_putf (n_q md_160 rfl) t_199 rfl rfl es2 ?_
    refine g_go 1 md_160 (i1 := 4) rfl ?_
    cases H
    exact K0 (x1, (y0, s2)) rfl
noncomputable def f160_21 (s : g_S) (y0 : Int32) : Option ((Int32 × Int32 × g_S) ⊕ (Int32 × g_S)) := ((f139 s).bind fun s2 => (f138 s2 (s2 199 4)).bind fun v3 => if v3 = 44 then (f160_33 s2 y0 1) else (f160_33 s2 y0 0))
theorem P160_21 {d ex : Nat} {rr : m_R} {s : g_S} {y0 : Int32} {u1 u2 : Option Value}   {z : ((Int32 × Int32 × g_S) ⊕ (Int32 × g_S))} (H : f160_21 s y0 = some z) (hd : 15 ≤ d) (K0 : ∀ S : Int32 × Int32 × g_S, z = .inl S → n_R X (d + 1) 160 4 [some (.ref 199), some (.int S.1), some (.int S.2.1)] [] (g_M S.2.2 ex) rr) (Kr : ∀ q, z = .inr (q) → g_rSI q ex = rr) : n_R X (d + 1) 160 21 [some (.ref 199), u1, u2] [.int y0] (g_M s ex) rr := by
  unfold f160_21 at H
  refine g_go 2 md_160 (i1 := 23) (ls1 := [some (.ref 199), some (.int y0), u2]) rfl ?_
  obtain ⟨s2, hs2, H⟩ := g_bind H
  refine n_call (n_q md_160 rfl) (As := [.ref 199]) (rest := []) rfl rfl (Nat.le_of_ble_eq_true rfl) rfl (g_recv (b := 0) rfl t_199 rfl) (C139 (by omega) hs2) ?_
  refine g_go 2 md_160 (i1 := 26) rfl ?_
  refine g_getf (n_q md_160 rfl) t_199 rfl ?_
  obtain ⟨v3, hv3, H⟩ := g_bind H
  refine n_callv (n_q md_160 rfl) (As := [.ref 199, .int (s2 199 4)]) (rest := []) rfl rfl (Nat.le_of_ble_eq_true rfl) rfl (g_recv (b := 0) rfl t_199 rfl) (C138 (by omega) hv3) ?_
  refine g_go 1 md_160 (i1 := 29) rfl ?_
  by_cases h4 : v3 = 44
  · rw [if_pos h4] at H
    refine n_cmpF (n_q md_160 rfl) (fun e1 => of_decide_eq_true e1 h4) ?_
    refine g_go 2 md_160 (i1 := 33) rfl ?_
    exact P160_33 H hd K0 Kr
  · rw [if_neg h4] at H
    refine n_cmpT (n_q md_160 rfl) (decide_eq_true h4) ?_
    refine g_go 1 md_160 (i1 := 33) rfl ?_
    exact P160_33 H hd K0 Kr
noncomputable def f160_18 (s : g_S) : Option ((Int32 × Int32 × g_S) ⊕ (Int32 × g_S)) := (f160_21 s 1)
theorem P160_18 {d ex : Nat} {rr : m_R} {s : g_S} {u1 u2 : Option Value}   {z : ((Int32 × Int32 × g_S) ⊕ (Int32 × g_S))} (H : f160_18 s = some z) (hd : 15 ≤ d) (K0 : ∀ S : Int32 × Int32 × g_S, z = .inl S → n_R X (d + 1) 160 4 [some (.ref 199), some (.int S.1), some (.int S.2.1)] [] (g_M S.2.2 ex) rr) (Kr : ∀ q, z = .inr (q) → g_rSI q ex = rr) : n_R X (d + 1) 160 18 [some (.ref 199), u1, u2] [] (g_M s ex) rr := by
  unfold f160_18 at H
  refine g_go 2 md_160 (i1 := 21) rfl ?_
  exact P160_21 H hd K0 Kr
noncomputable def f160_4 (s : g_S) (x1 : Int32) (x2 : Int32) : Option ((Int32 × Int32 × g_S) ⊕ (Int32 × g_S)) := (if x2 = 0 then (if m_isb x1 = true then some (.inr ((x1, s))) else none) else (if (s 199 6) = 0 then (g_bd (f142 s 1 3) fun v3 s4 => if v3 = (s4 199 17) then (f160_18 s4) else (if x1 = 0 then (f160_21 s4 0) else (f160_18 s4))) else (if m_isb x1 = true then some (.inr ((x1, s))) else none)))
theorem P160_4 {d ex : Nat} {rr : m_R} {s : g_S} {x1 : Int32} {x2 : Int32}   {z : ((Int32 × Int32 × g_S) ⊕ (Int32 × g_S))} (H : f160_4 s x1 x2 = some z) (hd : 15 ≤ d) (K0 : ∀ S : Int32 × Int32 × g_S, z = .inl S → n_R X (d + 1) 160 4 [some (.ref 199), some (.int S.1), some (.int S.2.1)] [] (g_M S.2.2 ex) rr) (Kr : ∀ q, z = .inr (q) → g_rSI q ex = rr) : n_R X (d + 1) 160 4 [some (.ref 199), some (.int x1), some (.int x2)] [] (g_M s ex) rr := by
  unfold f160_4 at H
  refine g_go 1 md_160 (i1 := 5) rfl ?_
  by_cases h1 : x2 = 0
  · rw [if_pos h1] at H
    refine n_ifT (n_q md_160 rfl) (decide_eq_true h1) ?_
    refine g_go 1 md_160 (i1 := 44) rfl ?_
    obtain ⟨hb2, H⟩ := g_gd H
    cases H
    rw [← Kr _ rfl]
    exact n_iret (n_q md_160 rfl) (Or.inr hb2)
  · rw [if_neg h1] at H
    refine n_ifF (n_q md_160 rfl) (fun e1 => h1 (of_decide_eq_true e1)) ?_
    refine g_go 1 md_160 (i1 := 7) rfl ?_
    refine g_getf (n_q md_160 rfl) t_199 rfl ?_
    by_cases h2 : (s 199 6) = 0
    · rw [if_pos h2] at H
      refine n_ifF (n_q md_160 rfl) (fun e1 => of_decide_eq_true e1 h2) ?_
      refine g_go 3 md_160 (i1 := 12) rfl ?_
      obtain ⟨v3, s4, hv3, H⟩ := g_bdp H
      refine n_callv (n_q md_160 rfl) (As := [.ref 199, .int 1, .int 3]) (rest := []) rfl rfl (Nat.le_of_ble_eq_true rfl) rfl (g_recv (b := 0) rfl t_199 rfl) (C142 (by omega) hv3) ?_
      refine g_go 1 md_160 (i1 := 14) rfl ?_
      refine g_getf (n_q md_160 rfl) t_199 rfl ?_
      by_cases h5 : v3 = (s4 199 17)
      · rw [if_pos h5] at H
        refine n_cmpT (n_q md_160 rfl) (decide_eq_true h5) ?_
        exact P160_18 H hd K0 Kr
      · rw [if_neg h5] at H
        refine n_cmpF (n_q md_160 rfl) (fun e1 => h5 (of_decide_eq_true e1)) ?_
        refine g_go 1 md_160 (i1 := 17) rfl ?_
        by_cases h6 : x1 = 0
        · rw [if_pos h6] at H
          refine n_ifT (n_q md_160 rfl) (decide_eq_true h6) ?_
          refine g_go 1 md_160 (i1 := 21) rfl ?_
          exact P160_21 H hd K0 Kr
        · rw [if_neg h6] at H
          refine n_ifF (n_q md_160 rfl) (fun e1 => h6 (of_decide_eq_true e1)) ?_
          exact P160_18 H hd K0 Kr
    · rw [if_neg h2] at H
      refine n_ifT (n_q md_160 rfl) (decide_eq_true h2) ?_
      refine g_go 1 md_160 (i1 := 44) rfl ?_
      obtain ⟨hb3, H⟩ := g_gd H
      cases H
      rw [← Kr _ rfl]
      exact n_iret (n_q md_160 rfl) (Or.inr hb3)
noncomputable def f160_4L (s : g_S) (x1 : Int32) (x2 : Int32) : Option (Int32 × g_S) := g_run (fun S : Int32 × Int32 × g_S => f160_4 S.2.2 S.1 S.2.1) (x1, (x2, s))
theorem f160_4L_eq (s : g_S) (x1 : Int32) (x2 : Int32) : f160_4L s x1 x2 = g_st (f160_4 s x1 x2) (fun S => f160_4L S.2.2 S.1 S.2.1) := by
  unfold f160_4L
  exact g_run_eq _ _
theorem P160_4L {d ex : Nat} {s : g_S} {x1 : Int32} {x2 : Int32}   {z : (Int32 × g_S)} (H : f160_4L s x1 x2 = some z) (hd : 15 ≤ d)  : n_R X (d + 1) 160 4 [some (.ref 199), some (.int x1), some (.int x2)] [] (g_M s ex) (g_rSI z ex) := by
  unfold f160_4L at H
  refine g_rs (Q := fun S => n_R X (d + 1) 160 4 [some (.ref 199), some (.int S.1), some (.int S.2.1)] [] (g_M S.2.2 ex) (g_rSI z ex)) H ?_
  intro S w hb K0 KK
  refine P160_4 hb hd ?_ ?_
  · exact fun S1 e1 => K0 S1 e1
  · exact fun q e1 => by rw [KK q e1]
noncomputable def f160 (s : g_S) : Option (Int32 × g_S) := (f160_4L s 0 1)
theorem C160 {d ex : Nat} {s : g_S}  {z : Int32 × g_S} (hd : 15 < d) (H : f160 s = some z) : n_C X d 160 [.ref 199] (g_M s ex) (g_rSI z ex) := by
  obtain ⟨d, rfl⟩ : ∃ d1, d = d1 + 1 := ⟨d - 1, by omega⟩
  replace hd := Nat.le_of_lt_succ hd
  refine ⟨Nat.le_of_ble_eq_true rfl, ?_⟩
  rw [md_160]
  show n_R X (d + 1) 160 0 [some (.ref 199), none, none] [] (g_M s ex) _
  unfold f160 at H
  refine g_go 4 md_160 (i1 := 4) (ls1 := [some (.ref 199), some (.int 0), some (.int 1)]) rfl ?_
  exact P160_4L H hd

theorem md_162 : m_md 162 = m_X8_mixes := rfl
noncomputable def f162_39 (s : g_S) (y1 : Int32) : Option (g_S) := (g_let (g_w s 199 20 y1) fun s1 => some s1)
theorem P162_39 {d ex : Nat} {s : g_S} {y1 : Int32} {u1 u2 : Option Value}   {z : (g_S)} (H : f162_39 s y1 = some z) (hd : 16 ≤ d)  : n_R X (d + 1) 162 39 [some (.ref 199), u1, u2] [.int y1, .ref 199] (g_M s ex) (g_rSV z ex) := by
  unfold f162_39 at H
  obtain ⟨s1, es1, H⟩ := g_letp H
  refine g_putf (n_q md_162 rfl) t_199 rfl rfl es1 ?_
  cases H
  exact n_end (n_q md_162 rfl) (fun _ => rfl)
noncomputable def f162_27 (s : g_S) (x1 : Int32) : Option (g_S) := (if (s 199 6) = 0 then ((f147 s).bind fun s3 => if x1 = 0 then (f162_39 s3 2) else (f162_39 s3 1)) else (some s))
theorem P162_27 {d ex : Nat} {s : g_S} {x1 : Int32} {u2 : Option Value}   {z : (g_S)} (H : f162_27 s x1 = some z) (hd : 16 ≤ d)  : n_R X (d + 1) 162 27 [some (.ref 199), some (.int x1), u2] [] (g_M s ex) (g_rSV z ex) := by
  unfold f162_27 at H
  refine g_go 1 md_162 (i1 := 28) rfl ?_
  refine g_getf (n_q md_162 rfl) t_199 rfl ?_
  by_cases h1 : (s 199 6) = 0
  · rw [if_pos h1] at H
    refine n_ifT (n_q md_162 rfl) (decide_eq_true h1) ?_
    refine g_go 1 md_162 (i1 := 32) rfl ?_
    obtain ⟨s3, hs3, H⟩ := g_bind H
    refine n_call (n_q md_162 rfl) (As := [.ref 199]) (rest := []) rfl rfl (Nat.le_of_ble_eq_true rfl) rfl (g_recv (b := 0) rfl t_199 rfl) (C147 (by omega) hs3) ?_
    refine g_go 2 md_162 (i1 := 35) rfl ?_
    by_cases h4 : x1 = 0
    · rw [if_pos h4] at H
      refine n_ifT (n_q md_162 rfl) (decide_eq_true h4) ?_
      refine g_go 1 md_162 (i1 := 39) rfl ?_
      exact P162_39 H hd
    · rw [if_neg h4] at H
      refine n_ifF (n_q md_162 rfl) (fun e1 => h4 (of_decide_eq_true e1)) ?_
      refine g_go 2 md_162 (i1 := 39) rfl ?_
      exact P162_39 H hd
  · rw [if_neg h1] at H
    refine n_ifF (n_q md_162 rfl) (fun e1 => h1 (of_decide_eq_true e1)) ?_
    cases H
    exact n_end (n_q md_162 rfl) (fun _ => rfl)
noncomputable def f162 (s : g_S) : Option (g_S) := (g_bd (f146 s 16 1 18 20 19 0) fun v1 s2 => g_bd (f146 s2 12 1 19 20 0 0) fun v3 s4 => if v1 = 0 then (if v3 = 0 then ((f140 s4 1 (s4 199 4)).bind fun s8 => f162_27 s8 v1) else (f162_27 s4 v1)) else (f162_27 s4 v1))
theorem C162 {d ex : Nat} {s : g_S}  {z : g_S} (hd : 16 < d) (H : f162 s = some z) : n_C X d 162 [.ref 199] (g_M s ex) (g_rSV z ex) := by
  obtain ⟨d, rfl⟩ : ∃ d1, d = d1 + 1 := ⟨d - 1, by omega⟩
  replace hd := Nat.le_of_lt_succ hd
  refine ⟨Nat.le_of_ble_eq_true rfl, ?_⟩
  rw [md_162]
  show n_R X (d + 1) 162 0 [some (.ref 199), none, none] [] (g_M s ex) _
  unfold f162 at H
  refine g_go 7 md_162 (i1 := 7) rfl ?_
  obtain ⟨v1, s2, hv1, H⟩ := g_bdp H
  refine n_callv (n_q md_162 rfl) (As := [.ref 199, .int 16, .int 1, .int 18, .int 20, .int 19, .int 0]) (rest := []) rfl rfl (Nat.le_of_ble_eq_true rfl) rfl (g_recv (b := 0) rfl t_199 rfl) (C146 (by omega) hv1) ?_
  refine g_go 8 md_162 (i1 := 16) (ls1 := [some (.ref 199), some (.int v1), none]) rfl ?_
  obtain ⟨v3, s4, hv3, H⟩ := g_bdp H
  refine n_callv (n_q md_162 rfl) (As := [.ref 199, .int 12, .int 1, .int 19, .int 20, .int 0, .int 0]) (rest := []) rfl rfl (Nat.le_of_ble_eq_true rfl) rfl (g_recv (b := 0) rfl t_199 rfl) (C146 (by omega) hv3) ?_
  refine g_go 2 md_162 (i1 := 19) (ls1 := [some (.ref 199), some (.int v1), some (.int v3)]) rfl ?_
  by_cases h5 : v1 = 0
  · rw [if_pos h5] at H
    refine n_ifF (n_q md_162 rfl) (fun e1 => of_decide_eq_true e1 h5) ?_
    refine g_go 1 md_162 (i1 := 21) rfl ?_
    by_cases h6 : v3 = 0
    · rw [if_pos h6] at H
      refine n_ifF (n_q md_162 rfl) (fun e1 => of_decide_eq_true e1 h6) ?_
      refine g_go 3 md_162 (i1 := 25) rfl ?_
      refine g_getf (n_q md_162 rfl) t_199 rfl ?_
      obtain ⟨s8, hs8, H⟩ := g_bind H
      refine n_call (n_q md_162 rfl) (As := [.ref 199, .int 1, .int (s4 199 4)]) (rest := []) rfl rfl (Nat.le_of_ble_eq_true rfl) rfl (g_recv (b := 0) rfl t_199 rfl) (C140 (by omega) hs8) ?_
      exact P162_27 H hd
    · rw [if_neg h6] at H
      refine n_ifT (n_q md_162 rfl) (decide_eq_true h6) ?_
      exact P162_27 H hd
  · rw [if_neg h5] at H
    refine n_ifT (n_q md_162 rfl) (decide_eq_true h5) ?_
    exact P162_27 H hd

end K6
