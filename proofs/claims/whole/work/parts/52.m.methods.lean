/-! METHODS, written by wip/whole/gen_51.py (12). -/
section K12
variable {X : m_X}
theorem md_245 : m_md 245 = m_L_found := rfl
noncomputable def f245 (s : g_S) (p1 : Int32) (p2 : Int32) : Option ((Int32 × Nat) × g_S) := (g_wb (f106 s p1 p2) (fun v1 s2 => g_let (g_w s2 564 0 v1) fun s3 => some (((0, 0), s3))) (fun ee ss => if ee = 1 then some ((1, 1), ss) else if ee = 0 then some ((2, 1), ss) else none))
theorem C245 {d ex : Nat} {s : g_S} {p1 : Int32} {p2 : Int32}  {z : (Int32 × Nat) × g_S} (hd : 18 < d) (H : f245 s p1 p2 = some z) : n_C X d 245 [.ref 0, .int p1, .int p2, .ref 564] (g_M s ex) (g_rW z ex) := by
  obtain ⟨d, rfl⟩ : ∃ d1, d = d1 + 1 := ⟨d - 1, by omega⟩
  replace hd := Nat.le_of_lt_succ hd
  refine ⟨Nat.le_of_ble_eq_true rfl, ?_⟩
  rw [md_245]
  show n_R X (d + 1) 245 0 [some (.ref 0), some (.int p1), some (.int p2), some (.ref 564), none] [] (g_M s ex) _
  unfold f245 at H
  refine g_go 5 md_245 (i1 := 5) rfl ?_
  rcases g_wbp H with ⟨v1, s2, hv1, H⟩ | ⟨v1, s2, hv1, H⟩
  rotate_left
  · all_goals skip
    by_cases c0 : v1 = 1
    · subst c0
      cases H
      refine n_callx (z := .inl none) (n_q md_245 rfl) (As := [.ref 0, .int p1, .int p2]) (rest := [.int 0, .ref 564]) rfl rfl (Nat.le_of_ble_eq_true rfl) rfl (g_recv (b := 0) rfl t_0 rfl) (C106 (by omega) hv1) rfl
    rw [if_neg c0] at H
    by_cases c1 : v1 = 0
    · subst c1
      cases H
      refine n_callx (z := .inl none) (n_q md_245 rfl) (As := [.ref 0, .int p1, .int p2]) (rest := [.int 0, .ref 564]) rfl rfl (Nat.le_of_ble_eq_true rfl) rfl (g_recv (b := 0) rfl t_0 rfl) (C106 (by omega) hv1) rfl
    rw [if_neg c1] at H
    cases H
  refine n_callv (n_q md_245 rfl) (As := [.ref 0, .int p1, .int p2]) (rest := [.int 0, .ref 564]) rfl rfl (Nat.le_of_ble_eq_true rfl) rfl (g_recv (b := 0) rfl t_0 rfl) (C106 (by omega) hv1) ?_
  refine g_go 1 md_245 (i1 := 7) rfl ?_
  obtain ⟨s3, es3, H⟩ := g_letp H
  refine g_last (n_q md_245 rfl) rfl es3 ?_
  refine g_go 2 md_245 (i1 := 16) rfl ?_
  cases H
  exact n_iret (n_q md_245 rfl) (Or.inl rfl)

theorem md_246 : m_md 246 = m_L_put := rfl
noncomputable def f246 (s : g_S) (p1 : Int32) (p2 : Int32) : Option ((Int32 × Nat) × g_S) := (g_wb (f107 s p1 p2) (fun v1 s2 => g_let (g_w s2 564 0 v1) fun s3 => some (((0, 0), s3))) (fun ee ss => if ee = 0 then some ((1, 1), ss) else none))
theorem C246 {d ex : Nat} {s : g_S} {p1 : Int32} {p2 : Int32}  {z : (Int32 × Nat) × g_S} (hd : 14 < d) (H : f246 s p1 p2 = some z) : n_C X d 246 [.ref 0, .int p1, .int p2, .ref 564] (g_M s ex) (g_rW z ex) := by
  obtain ⟨d, rfl⟩ : ∃ d1, d = d1 + 1 := ⟨d - 1, by omega⟩
  replace hd := Nat.le_of_lt_succ hd
  refine ⟨Nat.le_of_ble_eq_true rfl, ?_⟩
  rw [md_246]
  show n_R X (d + 1) 246 0 [some (.ref 0), some (.int p1), some (.int p2), some (.ref 564), none] [] (g_M s ex) _
  unfold f246 at H
  refine g_go 5 md_246 (i1 := 5) rfl ?_
  rcases g_wbp H with ⟨v1, s2, hv1, H⟩ | ⟨v1, s2, hv1, H⟩
  rotate_left
  · all_goals skip
    by_cases c0 : v1 = 0
    · subst c0
      cases H
      refine n_callx (z := .inl none) (n_q md_246 rfl) (As := [.ref 0, .int p1, .int p2]) (rest := [.int 0, .ref 564]) rfl rfl (Nat.le_of_ble_eq_true rfl) rfl (g_recv (b := 0) rfl t_0 rfl) (C107 (by omega) hv1) rfl
    rw [if_neg c0] at H
    cases H
  refine n_callv (n_q md_246 rfl) (As := [.ref 0, .int p1, .int p2]) (rest := [.int 0, .ref 564]) rfl rfl (Nat.le_of_ble_eq_true rfl) rfl (g_recv (b := 0) rfl t_0 rfl) (C107 (by omega) hv1) ?_
  refine g_go 1 md_246 (i1 := 7) rfl ?_
  obtain ⟨s3, es3, H⟩ := g_letp H
  refine g_last (n_q md_246 rfl) rfl es3 ?_
  refine g_go 2 md_246 (i1 := 13) rfl ?_
  cases H
  exact n_iret (n_q md_246 rfl) (Or.inl rfl)

theorem md_247 : m_md 247 = m_L_share := rfl
noncomputable def f247 (s : g_S) (p1 : Int32) (p2 : Int32) : Option ((Int32 × Nat) × g_S) := (g_wb (f108 s p1 p2) (fun v1 s2 => g_let (g_w s2 564 0 v1) fun s3 => some (((0, 0), s3))) (fun ee ss => if ee = 0 then some ((1, 1), ss) else none))
theorem C247 {d ex : Nat} {s : g_S} {p1 : Int32} {p2 : Int32}  {z : (Int32 × Nat) × g_S} (hd : 16 < d) (H : f247 s p1 p2 = some z) : n_C X d 247 [.ref 0, .int p1, .int p2, .ref 564] (g_M s ex) (g_rW z ex) := by
  obtain ⟨d, rfl⟩ : ∃ d1, d = d1 + 1 := ⟨d - 1, by omega⟩
  replace hd := Nat.le_of_lt_succ hd
  refine ⟨Nat.le_of_ble_eq_true rfl, ?_⟩
  rw [md_247]
  show n_R X (d + 1) 247 0 [some (.ref 0), some (.int p1), some (.int p2), some (.ref 564), none] [] (g_M s ex) _
  unfold f247 at H
  refine g_go 5 md_247 (i1 := 5) rfl ?_
  rcases g_wbp H with ⟨v1, s2, hv1, H⟩ | ⟨v1, s2, hv1, H⟩
  rotate_left
  · all_goals skip
    by_cases c0 : v1 = 0
    · subst c0
      cases H
      refine n_callx (z := .inl none) (n_q md_247 rfl) (As := [.ref 0, .int p1, .int p2]) (rest := [.int 0, .ref 564]) rfl rfl (Nat.le_of_ble_eq_true rfl) rfl (g_recv (b := 0) rfl t_0 rfl) (C108 (by omega) hv1) rfl
    rw [if_neg c0] at H
    cases H
  refine n_callv (n_q md_247 rfl) (As := [.ref 0, .int p1, .int p2]) (rest := [.int 0, .ref 564]) rfl rfl (Nat.le_of_ble_eq_true rfl) rfl (g_recv (b := 0) rfl t_0 rfl) (C108 (by omega) hv1) ?_
  refine g_go 1 md_247 (i1 := 7) rfl ?_
  obtain ⟨s3, es3, H⟩ := g_letp H
  refine g_last (n_q md_247 rfl) rfl es3 ?_
  refine g_go 2 md_247 (i1 := 13) rfl ?_
  cases H
  exact n_iret (n_q md_247 rfl) (Or.inl rfl)

theorem md_248 : m_md 248 = m_L_judge := rfl
noncomputable def f248 (s : g_S) (p1 : Int32) (p2 : Int32) : Option ((Int32 × Nat) × g_S) := (g_wb (f109 s p1 p2) (fun v1 s2 => g_let (g_w s2 564 0 v1) fun s3 => some (((0, 0), s3))) (fun ee ss => if ee = 1 then some ((1, 1), ss) else if ee = 0 then some ((2, 1), ss) else none))
theorem C248 {d ex : Nat} {s : g_S} {p1 : Int32} {p2 : Int32}  {z : (Int32 × Nat) × g_S} (hd : 15 < d) (H : f248 s p1 p2 = some z) : n_C X d 248 [.ref 0, .int p1, .int p2, .ref 564] (g_M s ex) (g_rW z ex) := by
  obtain ⟨d, rfl⟩ : ∃ d1, d = d1 + 1 := ⟨d - 1, by omega⟩
  replace hd := Nat.le_of_lt_succ hd
  refine ⟨Nat.le_of_ble_eq_true rfl, ?_⟩
  rw [md_248]
  show n_R X (d + 1) 248 0 [some (.ref 0), some (.int p1), some (.int p2), some (.ref 564), none] [] (g_M s ex) _
  unfold f248 at H
  refine g_go 5 md_248 (i1 := 5) rfl ?_
  rcases g_wbp H with ⟨v1, s2, hv1, H⟩ | ⟨v1, s2, hv1, H⟩
  rotate_left
  · all_goals skip
    by_cases c0 : v1 = 1
    · subst c0
      cases H
      refine n_callx (z := .inl none) (n_q md_248 rfl) (As := [.ref 0, .int p1, .int p2]) (rest := [.int 0, .ref 564]) rfl rfl (Nat.le_of_ble_eq_true rfl) rfl (g_recv (b := 0) rfl t_0 rfl) (C109 (by omega) hv1) rfl
    rw [if_neg c0] at H
    by_cases c1 : v1 = 0
    · subst c1
      cases H
      refine n_callx (z := .inl none) (n_q md_248 rfl) (As := [.ref 0, .int p1, .int p2]) (rest := [.int 0, .ref 564]) rfl rfl (Nat.le_of_ble_eq_true rfl) rfl (g_recv (b := 0) rfl t_0 rfl) (C109 (by omega) hv1) rfl
    rw [if_neg c1] at H
    cases H
  refine n_callv (n_q md_248 rfl) (As := [.ref 0, .int p1, .int p2]) (rest := [.int 0, .ref 564]) rfl rfl (Nat.le_of_ble_eq_true rfl) rfl (g_recv (b := 0) rfl t_0 rfl) (C109 (by omega) hv1) ?_
  refine g_go 1 md_248 (i1 := 7) rfl ?_
  obtain ⟨s3, es3, H⟩ := g_letp H
  refine g_last (n_q md_248 rfl) rfl es3 ?_
  refine g_go 2 md_248 (i1 := 16) rfl ?_
  cases H
  exact n_iret (n_q md_248 rfl) (Or.inl rfl)

theorem md_249 : m_md 249 = m_L_parting := rfl
noncomputable def f249 (s : g_S) (p1 : Int32) (p2 : Int32) : Option ((Int32 × Nat) × g_S) := (g_wb (f111 s p1 p2) (fun v1 s2 => g_let (g_w s2 564 0 v1) fun s3 => some (((0, 0), s3))) (fun ee ss => if ee = 0 then some ((1, 1), ss) else none))
theorem C249 {d ex : Nat} {s : g_S} {p1 : Int32} {p2 : Int32}  {z : (Int32 × Nat) × g_S} (hd : 17 < d) (H : f249 s p1 p2 = some z) : n_C X d 249 [.ref 0, .int p1, .int p2, .ref 564] (g_M s ex) (g_rW z ex) := by
  obtain ⟨d, rfl⟩ : ∃ d1, d = d1 + 1 := ⟨d - 1, by omega⟩
  replace hd := Nat.le_of_lt_succ hd
  refine ⟨Nat.le_of_ble_eq_true rfl, ?_⟩
  rw [md_249]
  show n_R X (d + 1) 249 0 [some (.ref 0), some (.int p1), some (.int p2), some (.ref 564), none] [] (g_M s ex) _
  unfold f249 at H
  refine g_go 5 md_249 (i1 := 5) rfl ?_
  rcases g_wbp H with ⟨v1, s2, hv1, H⟩ | ⟨v1, s2, hv1, H⟩
  rotate_left
  · all_goals skip
    by_cases c0 : v1 = 0
    · subst c0
      cases H
      refine n_callx (z := .inl none) (n_q md_249 rfl) (As := [.ref 0, .int p1, .int p2]) (rest := [.int 0, .ref 564]) rfl rfl (Nat.le_of_ble_eq_true rfl) rfl (g_recv (b := 0) rfl t_0 rfl) (C111 (by omega) hv1) rfl
    rw [if_neg c0] at H
    cases H
  refine n_callv (n_q md_249 rfl) (As := [.ref 0, .int p1, .int p2]) (rest := [.int 0, .ref 564]) rfl rfl (Nat.le_of_ble_eq_true rfl) rfl (g_recv (b := 0) rfl t_0 rfl) (C111 (by omega) hv1) ?_
  refine g_go 1 md_249 (i1 := 7) rfl ?_
  obtain ⟨s3, es3, H⟩ := g_letp H
  refine g_last (n_q md_249 rfl) rfl es3 ?_
  refine g_go 2 md_249 (i1 := 13) rfl ?_
  cases H
  exact n_iret (n_q md_249 rfl) (Or.inl rfl)

theorem md_250 : m_md 250 = m_L_beside := rfl
noncomputable def f250 (s : g_S) (p1 : Int32) (p2 : Int32) : Option ((Int32 × Nat) × g_S) := (g_wb (f112 s p1 p2) (fun v1 s2 => g_let (g_w s2 564 0 v1) fun s3 => some (((0, 0), s3))) (fun ee ss => if ee = 1 then some ((1, 1), ss) else if ee = 0 then some ((2, 1), ss) else none))
theorem C250 {d ex : Nat} {s : g_S} {p1 : Int32} {p2 : Int32}  {z : (Int32 × Nat) × g_S} (hd : 18 < d) (H : f250 s p1 p2 = some z) : n_C X d 250 [.ref 0, .int p1, .int p2, .ref 564] (g_M s ex) (g_rW z ex) := by
  obtain ⟨d, rfl⟩ : ∃ d1, d = d1 + 1 := ⟨d - 1, by omega⟩
  replace hd := Nat.le_of_lt_succ hd
  refine ⟨Nat.le_of_ble_eq_true rfl, ?_⟩
  rw [md_250]
  show n_R X (d + 1) 250 0 [some (.ref 0), some (.int p1), some (.int p2), some (.ref 564), none] [] (g_M s ex) _
  unfold f250 at H
  refine g_go 5 md_250 (i1 := 5) rfl ?_
  rcases g_wbp H with ⟨v1, s2, hv1, H⟩ | ⟨v1, s2, hv1, H⟩
  rotate_left
  · all_goals skip
    by_cases c0 : v1 = 1
    · subst c0
      cases H
      refine n_callx (z := .inl none) (n_q md_250 rfl) (As := [.ref 0, .int p1, .int p2]) (rest := [.int 0, .ref 564]) rfl rfl (Nat.le_of_ble_eq_true rfl) rfl (g_recv (b := 0) rfl t_0 rfl) (C112 (by omega) hv1) rfl
    rw [if_neg c0] at H
    by_cases c1 : v1 = 0
    · subst c1
      cases H
      refine n_callx (z := .inl none) (n_q md_250 rfl) (As := [.ref 0, .int p1, .int p2]) (rest := [.int 0, .ref 564]) rfl rfl (Nat.le_of_ble_eq_true rfl) rfl (g_recv (b := 0) rfl t_0 rfl) (C112 (by omega) hv1) rfl
    rw [if_neg c1] at H
    cases H
  refine n_callv (n_q md_250 rfl) (As := [.ref 0, .int p1, .int p2]) (rest := [.int 0, .ref 564]) rfl rfl (Nat.le_of_ble_eq_true rfl) rfl (g_recv (b := 0) rfl t_0 rfl) (C112 (by omega) hv1) ?_
  refine g_go 1 md_250 (i1 := 7) rfl ?_
  obtain ⟨s3, es3, H⟩ := g_letp H
  refine g_last (n_q md_250 rfl) rfl es3 ?_
  refine g_go 2 md_250 (i1 := 16) rfl ?_
  cases H
  exact n_iret (n_q md_250 rfl) (Or.inl rfl)


end K12
