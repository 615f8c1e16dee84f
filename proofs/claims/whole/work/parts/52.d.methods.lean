/-! METHODS, written by wip/whole/gen_51.py (3). -/
section K3
variable {X : m_X}
theorem md_71 : m_md 71 = m_X5_isWord := rfl
noncomputable def f71 (s : g_S) (p1 : Nat) : Option (Int32) := ((f72 s p1).bind fun v1 => if v1 = 0 then (some 1) else (some 0))
theorem C71 {d ex : Nat} {s : g_S} {p1 : Nat} (ph1 : p1 < m_text.length) {z : Int32} (hd : 14 < d) (H : f71 s p1 = some z) : n_C X d 71 [.ref 11, .ref (m_T0 + p1)] (g_M s ex) (g_rPI s z ex) := by
  obtain ⟨d, rfl⟩ : ∃ d1, d = d1 + 1 := ⟨d - 1, by omega⟩
  replace hd := Nat.le_of_lt_succ hd
  refine ⟨Nat.le_of_ble_eq_true rfl, ?_⟩
  rw [md_71]
  show n_R X (d + 1) 71 0 [some (.ref 11), some (.ref (m_T0 + p1))] [] (g_M s ex) _
  unfold f71 at H
  refine g_go 2 md_71 (i1 := 2) rfl ?_
  obtain ⟨v1, hv1, H⟩ := g_bind H
  refine n_callv (n_q md_71 rfl) (As := [.ref 11, .ref (m_T0 + p1)]) (rest := []) rfl rfl (Nat.le_of_ble_eq_true rfl) rfl (g_recv (b := 0) rfl t_11 rfl) (C72 ph1 (by omega) hv1) ?_
  by_cases h2 : v1 = 0
  · rw [if_pos h2] at H
    refine n_ifF (n_q md_71 rfl) (fun e1 => of_decide_eq_true e1 h2) ?_
    refine g_go 2 md_71 (i1 := 7) rfl ?_
    cases H
    exact n_iret (n_q md_71 rfl) (Or.inr rfl)
  · rw [if_neg h2] at H
    refine n_ifT (n_q md_71 rfl) (decide_eq_true h2) ?_
    refine g_go 1 md_71 (i1 := 7) rfl ?_
    cases H
    exact n_iret (n_q md_71 rfl) (Or.inr rfl)

theorem md_54 : m_md 54 = m_X5_readCondition := rfl
noncomputable def f54_42 (φ : g_S → Option (Int32 × g_S)) (s : g_S) (x2 : Int32) (y0 : Int32) : Option (Int32 × g_S) := (if g_lay (s 11 4).toNatClampNeg = o_4 (s 11 4).toNatClampNeg then (f33 s ((s 11 4).toNatClampNeg) x2).bind fun s3 => if m_isb y0 = true then some ((y0, s3)) else none else none)
theorem P54_42 {d ex : Nat} {L : Nat} {φ : g_S → Option (Int32 × g_S)} {s : g_S} {x2 : Int32} {y0 : Int32} {u1 : Option Value}   {z : (Int32 × g_S)} (H : f54_42 φ s x2 y0 = some z) (hL : 53 ≤ L) (hφ : ∀ d1, L ≤ d1 → ∀ {ex : Nat} {s : g_S} {z}, φ s = some z → n_C X d1 54 [.ref 11] (g_M s ex) (g_rSI z ex)) (hd : L + 2 ≤ d)  : n_R X (d + 1) 54 42 [some (.ref 11), u1, some (.int x2)] [.int y0] (g_M s ex) (g_rSI z ex) := by
  unfold f54_42 at H
  refine g_go 2 md_54 (i1 := 44) (ls1 := [some (.ref 11), some (.int y0), some (.int x2)]) rfl ?_
  refine g_getd (n_q md_54 rfl) t_11 rfl ?_
  refine g_go 1 md_54 (i1 := 46) rfl ?_
  obtain ⟨h1, H⟩ := g_gd H
  obtain ⟨s3, hs3, H⟩ := g_bind H
  refine n_call (n_q md_54 rfl) (As := [.ref ((s 11 4).toNatClampNeg), .int x2]) (rest := []) rfl rfl (Nat.le_of_ble_eq_true rfl) rfl (g_recv (b := 0) rfl h1 rfl) (C33 h1 (by omega) hs3) ?_
  refine g_go 1 md_54 (i1 := 48) rfl ?_
  obtain ⟨hb4, H⟩ := g_gd H
  cases H
  exact n_iret (n_q md_54 rfl) (Or.inr hb4)
noncomputable def f54_41 (φ : g_S → Option (Int32 × g_S)) (s : g_S) (x2 : Int32) : Option (Int32 × g_S) := (f54_42 φ s x2 0)
theorem P54_41 {d ex : Nat} {L : Nat} {φ : g_S → Option (Int32 × g_S)} {s : g_S} {x2 : Int32} {u1 : Option Value}   {z : (Int32 × g_S)} (H : f54_41 φ s x2 = some z) (hL : 53 ≤ L) (hφ : ∀ d1, L ≤ d1 → ∀ {ex : Nat} {s : g_S} {z}, φ s = some z → n_C X d1 54 [.ref 11] (g_M s ex) (g_rSI z ex)) (hd : L + 2 ≤ d)  : n_R X (d + 1) 54 41 [some (.ref 11), u1, some (.int x2)] [] (g_M s ex) (g_rSI z ex) := by
  unfold f54_41 at H
  refine g_go 1 md_54 (i1 := 42) rfl ?_
  exact P54_42 H hL hφ hd
noncomputable def f54 (φ : g_S → Option (Int32 × g_S)) (s : g_S) : Option (Int32 × g_S) := ((f71 s 8).bind fun v1 => if v1 = 0 then (if (s 11 5) = 91 then (g_bd (f62 s) fun v4 s5 => if v4 = 0 then (some ((0, s5))) else (g_bd (f52 φ s5) fun v7 s8 => if v7 = 0 then (some ((0, s8))) else (g_bd (f63 s8 93) fun v10 s11 => if v10 = 0 then (some ((0, s11))) else (some ((1, s11)))))) else (g_bd (f57c s) fun v4 s5 => if v4 = 0 then (f54_41 φ s5 (s5 11 5)) else (g_bd (f56 s5) fun v7 s8 => if v7 = 0 then (f54_41 φ s8 (s5 11 5)) else (g_bd (f57c s8) fun v10 s11 => if v10 = 0 then (f54_41 φ s11 (s5 11 5)) else (f54_42 φ s11 (s5 11 5) 1))))) else (g_bd (f55 φ s) fun v3 s4 => if m_isb v3 = true then some ((v3, s4)) else none))
theorem C54 {d ex : Nat} {L : Nat} {φ : g_S → Option (Int32 × g_S)} {s : g_S}  {z : Int32 × g_S} (hL : 53 ≤ L) (hφ : ∀ d1, L ≤ d1 → ∀ {ex : Nat} {s : g_S} {z}, φ s = some z → n_C X d1 54 [.ref 11] (g_M s ex) (g_rSI z ex)) (hd : L + 2 < d) (H : f54 φ s = some z) : n_C X d 54 [.ref 11] (g_M s ex) (g_rSI z ex) := by
  obtain ⟨d, rfl⟩ : ∃ d1, d = d1 + 1 := ⟨d - 1, by omega⟩
  replace hd := Nat.le_of_lt_succ hd
  refine ⟨Nat.le_of_ble_eq_true rfl, ?_⟩
  rw [md_54]
  show n_R X (d + 1) 54 0 [some (.ref 11), none, none] [] (g_M s ex) _
  unfold f54 at H
  refine g_go 2 md_54 (i1 := 2) rfl ?_
  obtain ⟨v1, hv1, H⟩ := g_bind H
  refine n_callv (n_q md_54 rfl) (As := [.ref 11, .ref (m_T0 + 8)]) (rest := []) rfl rfl (Nat.le_of_ble_eq_true rfl) rfl (g_recv (b := 0) rfl t_11 rfl) (C71 (by decide : 8 < m_text.length) (by omega) hv1) ?_
  by_cases h2 : v1 = 0
  · rw [if_pos h2] at H
    refine n_ifT (n_q md_54 rfl) (decide_eq_true h2) ?_
    refine g_go 1 md_54 (i1 := 8) rfl ?_
    refine g_getf (n_q md_54 rfl) t_11 rfl ?_
    refine g_go 1 md_54 (i1 := 10) rfl ?_
    by_cases h3 : (s 11 5) = 91
    · rw [if_pos h3] at H
      refine n_cmpF (n_q md_54 rfl) (fun e1 => of_decide_eq_true e1 h3) ?_
      refine g_go 1 md_54 (i1 := 12) rfl ?_
      obtain ⟨v4, s5, hv4, H⟩ := g_bdp H
      refine n_callv (n_q md_54 rfl) (As := [.ref 11]) (rest := []) rfl rfl (Nat.le_of_ble_eq_true rfl) rfl (g_recv (b := 0) rfl t_11 rfl) (C62 (by omega) hv4) ?_
      by_cases h6 : v4 = 0
      · rw [if_pos h6] at H
        refine n_ifT (n_q md_54 rfl) (decide_eq_true h6) ?_
        refine g_go 1 md_54 (i1 := 24) rfl ?_
        cases H
        exact n_iret (n_q md_54 rfl) (Or.inr rfl)
      · rw [if_neg h6] at H
        refine n_ifF (n_q md_54 rfl) (fun e1 => h6 (of_decide_eq_true e1)) ?_
        refine g_go 1 md_54 (i1 := 15) rfl ?_
        obtain ⟨v7, s8, hv7, H⟩ := g_bdp H
        refine n_callv (n_q md_54 rfl) (As := [.ref 11]) (rest := []) rfl rfl (Nat.le_of_ble_eq_true rfl) rfl (g_recv (b := 0) rfl t_11 rfl) (C52 hL hφ (by omega) hv7) ?_
        by_cases h9 : v7 = 0
        · rw [if_pos h9] at H
          refine n_ifT (n_q md_54 rfl) (decide_eq_true h9) ?_
          refine g_go 1 md_54 (i1 := 24) rfl ?_
          cases H
          exact n_iret (n_q md_54 rfl) (Or.inr rfl)
        · rw [if_neg h9] at H
          refine n_ifF (n_q md_54 rfl) (fun e1 => h9 (of_decide_eq_true e1)) ?_
          refine g_go 2 md_54 (i1 := 19) rfl ?_
          obtain ⟨v10, s11, hv10, H⟩ := g_bdp H
          refine n_callv (n_q md_54 rfl) (As := [.ref 11, .int 93]) (rest := []) rfl rfl (Nat.le_of_ble_eq_true rfl) rfl (g_recv (b := 0) rfl t_11 rfl) (C63 (by omega) hv10) ?_
          by_cases h12 : v10 = 0
          · rw [if_pos h12] at H
            refine n_ifT (n_q md_54 rfl) (decide_eq_true h12) ?_
            refine g_go 1 md_54 (i1 := 24) rfl ?_
            cases H
            exact n_iret (n_q md_54 rfl) (Or.inr rfl)
          · rw [if_neg h12] at H
            refine n_ifF (n_q md_54 rfl) (fun e1 => h12 (of_decide_eq_true e1)) ?_
            refine g_go 2 md_54 (i1 := 24) rfl ?_
            cases H
            exact n_iret (n_q md_54 rfl) (Or.inr rfl)
    · rw [if_neg h3] at H
      refine n_cmpT (n_q md_54 rfl) (decide_eq_true h3) ?_
      refine g_go 1 md_54 (i1 := 26) rfl ?_
      obtain ⟨v4, s5, hv4, H⟩ := g_bdp H
      refine n_callv (n_q md_54 rfl) (As := [.ref 11]) (rest := []) rfl rfl (Nat.le_of_ble_eq_true rfl) rfl (g_recv (b := 0) rfl t_11 rfl) (C57c (by omega) hv4) ?_
      refine g_go 2 md_54 (i1 := 29) (ls1 := [some (.ref 11), some (.int v4), none]) rfl ?_
      refine g_getf (n_q md_54 rfl) t_11 rfl ?_
      refine g_go 2 md_54 (i1 := 32) (ls1 := [some (.ref 11), some (.int v4), some (.int (s5 11 5))]) rfl ?_
      by_cases h6 : v4 = 0
      · rw [if_pos h6] at H
        refine n_ifT (n_q md_54 rfl) (decide_eq_true h6) ?_
        exact P54_41 H hL hφ hd
      · rw [if_neg h6] at H
        refine n_ifF (n_q md_54 rfl) (fun e1 => h6 (of_decide_eq_true e1)) ?_
        refine g_go 1 md_54 (i1 := 34) rfl ?_
        obtain ⟨v7, s8, hv7, H⟩ := g_bdp H
        refine n_callv (n_q md_54 rfl) (As := [.ref 11]) (rest := []) rfl rfl (Nat.le_of_ble_eq_true rfl) rfl (g_recv (b := 0) rfl t_11 rfl) (C56 (by omega) hv7) ?_
        by_cases h9 : v7 = 0
        · rw [if_pos h9] at H
          refine n_ifT (n_q md_54 rfl) (decide_eq_true h9) ?_
          exact P54_41 H hL hφ hd
        · rw [if_neg h9] at H
          refine n_ifF (n_q md_54 rfl) (fun e1 => h9 (of_decide_eq_true e1)) ?_
          refine g_go 1 md_54 (i1 := 37) rfl ?_
          obtain ⟨v10, s11, hv10, H⟩ := g_bdp H
          refine n_callv (n_q md_54 rfl) (As := [.ref 11]) (rest := []) rfl rfl (Nat.le_of_ble_eq_true rfl) rfl (g_recv (b := 0) rfl t_11 rfl) (C57c (by omega) hv10) ?_
          by_cases h12 : v10 = 0
          · rw [if_pos h12] at H
            refine n_ifT (n_q md_54 rfl) (decide_eq_true h12) ?_
            exact P54_41 H hL hφ hd
          · rw [if_neg h12] at H
            refine n_ifF (n_q md_54 rfl) (fun e1 => h12 (of_decide_eq_true e1)) ?_
            refine g_go 2 md_54 (i1 := 42) rfl ?_
            exact P54_42 H hL hφ hd
  · rw [if_neg h2] at H
    refine n_ifF (n_q md_54 rfl) (fun e1 => h2 (of_decide_eq_true e1)) ?_
    refine g_go 1 md_54 (i1 := 5) rfl ?_
    obtain ⟨v3, s4, hv3, H⟩ := g_bdp H
    refine n_callv (n_q md_54 rfl) (As := [.ref 11]) (rest := []) rfl rfl (Nat.le_of_ble_eq_true rfl) rfl (g_recv (b := 0) rfl t_11 rfl) (C55 hL hφ (by omega) hv3) ?_
    obtain ⟨hb5, H⟩ := g_gd H
    cases H
    exact n_iret (n_q md_54 rfl) (Or.inr hb5)

/-- the knot: m_X5_readCondition by fuel -/
noncomputable def g54 : Nat → g_S → Option (Int32 × g_S)
  | 0 => fun _ => none
  | n + 1 => fun s => f54 (g54 n) s
theorem G54 : ∀ n d1 : Nat, 53 + 3 * n ≤ d1 → ∀ {ex : Nat} {s : g_S} {z}, g54 n s = some z → n_C X d1 54 [.ref 11] (g_M s ex) (g_rSI z ex)
  | 0, _, _, _, _, _, h => by cases h
  | n + 1, d1, hd, ex, s, z, h => C54 (L := 53 + 3 * n) (φ := g54 n) (by omega) (fun d2 h2 => G54 n d2 h2) (by omega) h
noncomputable def f52c (s : g_S) : Option (Int32 × g_S) := f52 (g54 9) s
theorem C52c {d ex : Nat} {s : g_S} {z : Int32 × g_S} (hd : 81 < d) (H : f52c s = some z) : n_C X d 52 [.ref 11] (g_M s ex) (g_rSI z ex) := C52 (L := 80) (φ := g54 9) (by omega) (fun d2 h2 => G54 9 d2 (by omega)) (by omega) H
noncomputable def f53c (s : g_S) : Option (Int32 × g_S) := f53 (g54 9) s
theorem C53c {d ex : Nat} {s : g_S} {z : Int32 × g_S} (hd : 80 < d) (H : f53c s = some z) : n_C X d 53 [.ref 11] (g_M s ex) (g_rSI z ex) := C53 (L := 80) (φ := g54 9) (by omega) (fun d2 h2 => G54 9 d2 (by omega)) (by omega) H
noncomputable def f54c (s : g_S) : Option (Int32 × g_S) := f54 (g54 9) s
theorem C54c {d ex : Nat} {s : g_S} {z : Int32 × g_S} (hd : 82 < d) (H : f54c s = some z) : n_C X d 54 [.ref 11] (g_M s ex) (g_rSI z ex) := C54 (L := 80) (φ := g54 9) (by omega) (fun d2 h2 => G54 9 d2 (by omega)) (by omega) H
noncomputable def f55c (s : g_S) : Option (Int32 × g_S) := f55 (g54 9) s
theorem C55c {d ex : Nat} {s : g_S} {z : Int32 × g_S} (hd : 80 < d) (H : f55c s = some z) : n_C X d 55 [.ref 11] (g_M s ex) (g_rSI z ex) := C55 (L := 80) (φ := g54 9) (by omega) (fun d2 h2 => G54 9 d2 (by omega)) (by omega) H

theorem md_45 : m_md 45 = m_X5_readClause := rfl
noncomputable def f45_17 (s : g_S) (x1 : Int32) (x2 : Int32) : Option (Int32 × g_S) := (if g_lay (s 11 4).toNatClampNeg = o_4 (s 11 4).toNatClampNeg then (f30 s ((s 11 4).toNatClampNeg)).bind fun v2 => if v2 = 0 then ((f68 s).bind fun s5 => if x2 = 0 then ((f72 s5 3).bind fun v7 => if v7 = ((-1)) then (g_bd (f67 s5 1) fun v9 s10 => if m_isb v9 = true then some ((v9, s10)) else none) else ((f74 s5 x1 6).bind fun v9 => if g_lay (s5 11 4).toNatClampNeg = o_4 (s5 11 4).toNatClampNeg then (f31 s5 ((s5 11 4).toNatClampNeg) v7 v9).bind fun s12 => (f68 s12).bind fun s14 => (if v7 = 2 then (g_bd (f57c s14) fun v16 s17 => if m_isb v16 = true then some ((v16, s17)) else none) else (if v7 = 3 then (g_bd (f50 s14) fun v17 s18 => if m_isb v17 = true then some ((v17, s18)) else none) else (if v7 = 4 then (some ((1, s14))) else (g_bd (f48 s14) fun v18 s19 => if v18 = 0 then (some ((0, s19))) else (g_bd (f65 s19 5) fun v21 s22 => if v21 = 0 then (some ((1, s22))) else (g_bd (f52c s22) fun v24 s25 => if v24 = 0 then (some ((0, s25))) else (some ((1, s25))))))))) else none)) else (g_bd (f46 s5) fun v7 s8 => if m_isb v7 = true then some ((v7, s8)) else none)) else (g_bd (f67 s 3) fun v4 s5 => if m_isb v4 = true then some ((v4, s5)) else none) else none)
theorem P45_17 {d ex : Nat} {s : g_S} {x1 : Int32} {x2 : Int32} {u3 : Option Value}   {z : (Int32 × g_S)} (H : f45_17 s x1 x2 = some z) (hd : 82 ≤ d)  : n_R X (d + 1) 45 17 [some (.ref 11), some (.int x1), some (.int x2), u3] [] (g_M s ex) (g_rSI z ex) := by
  unfold f45_17 at H
  refine g_go 1 md_45 (i1 := 18) rfl ?_
  refine g_getd (n_q md_45 rfl) t_11 rfl ?_
  obtain ⟨h1, H⟩ := g_gd H
  obtain ⟨v2, hv2, H⟩ := g_bind H
  refine n_callv (n_q md_45 rfl) (As := [.ref ((s 11 4).toNatClampNeg)]) (rest := []) rfl rfl (Nat.le_of_ble_eq_true rfl) rfl (g_recv (b := 0) rfl h1 rfl) (C30 h1 (by omega) hv2) ?_
  by_cases h3 : v2 = 0
  · rw [if_pos h3] at H
    refine n_ifT (n_q md_45 rfl) (decide_eq_true h3) ?_
    refine g_go 1 md_45 (i1 := 26) rfl ?_
    obtain ⟨s5, hs5, H⟩ := g_bind H
    refine n_call (n_q md_45 rfl) (As := [.ref 11]) (rest := []) rfl rfl (Nat.le_of_ble_eq_true rfl) rfl (g_recv (b := 0) rfl t_11 rfl) (C68 (by omega) hs5) ?_
    refine g_go 1 md_45 (i1 := 28) rfl ?_
    by_cases h6 : x2 = 0
    · rw [if_pos h6] at H
      refine n_ifT (n_q md_45 rfl) (decide_eq_true h6) ?_
      refine g_go 2 md_45 (i1 := 34) rfl ?_
      obtain ⟨v7, hv7, H⟩ := g_bind H
      refine n_callv (n_q md_45 rfl) (As := [.ref 11, .ref (m_T0 + 3)]) (rest := []) rfl rfl (Nat.le_of_ble_eq_true rfl) rfl (g_recv (b := 0) rfl t_11 rfl) (C72 (by decide : 3 < m_text.length) (by omega) hv7) ?_
      refine g_go 3 md_45 (i1 := 38) (ls1 := [some (.ref 11), some (.int x1), some (.int x2), some (.int v7)]) rfl ?_
      by_cases h8 : v7 = ((-1))
      · rw [if_pos h8] at H
        refine n_cmpF (n_q md_45 rfl) (fun e1 => of_decide_eq_true e1 h8) ?_
        refine g_go 2 md_45 (i1 := 41) rfl ?_
        obtain ⟨v9, s10, hv9, H⟩ := g_bdp H
        refine n_callv (n_q md_45 rfl) (As := [.ref 11, .int 1]) (rest := []) rfl rfl (Nat.le_of_ble_eq_true rfl) rfl (g_recv (b := 0) rfl t_11 rfl) (C67 (by omega) hv9) ?_
        obtain ⟨hb11, H⟩ := g_gd H
        cases H
        exact n_iret (n_q md_45 rfl) (Or.inr hb11)
      · rw [if_neg h8] at H
        refine n_cmpT (n_q md_45 rfl) (decide_eq_true h8) ?_
        refine g_go 1 md_45 (i1 := 44) rfl ?_
        refine g_getd (n_q md_45 rfl) t_11 rfl ?_
        refine g_go 3 md_45 (i1 := 48) rfl ?_
        obtain ⟨v9, hv9, H⟩ := g_bind H
        refine n_callv (n_q md_45 rfl) (As := [.int x1, .int 6]) (rest := [.int v7, .ref ((s5 11 4).toNatClampNeg)]) rfl rfl (Nat.le_of_ble_eq_true rfl) rfl rfl (C74 (by omega) hv9) ?_
        obtain ⟨h10, H⟩ := g_gd H
        obtain ⟨s12, hs12, H⟩ := g_bind H
        refine n_call (n_q md_45 rfl) (As := [.ref ((s5 11 4).toNatClampNeg), .int v7, .int v9]) (rest := []) rfl rfl (Nat.le_of_ble_eq_true rfl) rfl (g_recv (b := 0) rfl h10 rfl) (C31 h10 (by omega) hs12) ?_
        refine g_go 1 md_45 (i1 := 51) rfl ?_
        obtain ⟨s14, hs14, H⟩ := g_bind H
        refine n_call (n_q md_45 rfl) (As := [.ref 11]) (rest := []) rfl rfl (Nat.le_of_ble_eq_true rfl) rfl (g_recv (b := 0) rfl t_11 rfl) (C68 (by omega) hs14) ?_
        refine g_go 1 md_45 (i1 := 53) rfl ?_
        refine n_sw (n_q md_45 rfl) ?_
        unfold m_sw
        by_cases h15 : v7 = 2
        · rw [if_pos h15] at H ⊢
          refine g_go 1 md_45 (i1 := 55) rfl ?_
          obtain ⟨v16, s17, hv16, H⟩ := g_bdp H
          refine n_callv (n_q md_45 rfl) (As := [.ref 11]) (rest := []) rfl rfl (Nat.le_of_ble_eq_true rfl) rfl (g_recv (b := 0) rfl t_11 rfl) (C57c (by omega) hv16) ?_
          obtain ⟨hb18, H⟩ := g_gd H
          cases H
          exact n_iret (n_q md_45 rfl) (Or.inr hb18)
        · rw [if_neg h15] at H ⊢
          unfold m_sw
          by_cases h16 : v7 = 3
          · rw [if_pos h16] at H ⊢
            refine g_go 1 md_45 (i1 := 58) rfl ?_
            obtain ⟨v17, s18, hv17, H⟩ := g_bdp H
            refine n_callv (n_q md_45 rfl) (As := [.ref 11]) (rest := []) rfl rfl (Nat.le_of_ble_eq_true rfl) rfl (g_recv (b := 0) rfl t_11 rfl) (C50 (by omega) hv17) ?_
            obtain ⟨hb19, H⟩ := g_gd H
            cases H
            exact n_iret (n_q md_45 rfl) (Or.inr hb19)
          · rw [if_neg h16] at H ⊢
            unfold m_sw
            by_cases h17 : v7 = 4
            · rw [if_pos h17] at H ⊢
              refine g_go 1 md_45 (i1 := 61) rfl ?_
              cases H
              exact n_iret (n_q md_45 rfl) (Or.inr rfl)
            · rw [if_neg h17] at H ⊢
              unfold m_sw
              refine g_go 1 md_45 (i1 := 63) rfl ?_
              obtain ⟨v18, s19, hv18, H⟩ := g_bdp H
              refine n_callv (n_q md_45 rfl) (As := [.ref 11]) (rest := []) rfl rfl (Nat.le_of_ble_eq_true rfl) rfl (g_recv (b := 0) rfl t_11 rfl) (C48 (by omega) hv18) ?_
              by_cases h20 : v18 = 0
              · rw [if_pos h20] at H
                refine n_ifT (n_q md_45 rfl) (decide_eq_true h20) ?_
                refine g_go 1 md_45 (i1 := 75) rfl ?_
                cases H
                exact n_iret (n_q md_45 rfl) (Or.inr rfl)
              · rw [if_neg h20] at H
                refine n_ifF (n_q md_45 rfl) (fun e1 => h20 (of_decide_eq_true e1)) ?_
                refine g_go 2 md_45 (i1 := 67) rfl ?_
                obtain ⟨v21, s22, hv21, H⟩ := g_bdp H
                refine n_callv (n_q md_45 rfl) (As := [.ref 11, .ref (m_T0 + 5)]) (rest := []) rfl rfl (Nat.le_of_ble_eq_true rfl) rfl (g_recv (b := 0) rfl t_11 rfl) (C65 (by decide : 5 < m_text.length) (by omega) hv21) ?_
                by_cases h23 : v21 = 0
                · rw [if_pos h23] at H
                  refine n_ifT (n_q md_45 rfl) (decide_eq_true h23) ?_
                  refine g_go 2 md_45 (i1 := 75) rfl ?_
                  cases H
                  exact n_iret (n_q md_45 rfl) (Or.inr rfl)
                · rw [if_neg h23] at H
                  refine n_ifF (n_q md_45 rfl) (fun e1 => h23 (of_decide_eq_true e1)) ?_
                  refine g_go 1 md_45 (i1 := 70) rfl ?_
                  obtain ⟨v24, s25, hv24, H⟩ := g_bdp H
                  refine n_callv (n_q md_45 rfl) (As := [.ref 11]) (rest := []) rfl rfl (Nat.le_of_ble_eq_true rfl) rfl (g_recv (b := 0) rfl t_11 rfl) (C52c (by omega) hv24) ?_
                  by_cases h26 : v24 = 0
                  · rw [if_pos h26] at H
                    refine n_ifT (n_q md_45 rfl) (decide_eq_true h26) ?_
                    refine g_go 1 md_45 (i1 := 75) rfl ?_
                    cases H
                    exact n_iret (n_q md_45 rfl) (Or.inr rfl)
                  · rw [if_neg h26] at H
                    refine n_ifF (n_q md_45 rfl) (fun e1 => h26 (of_decide_eq_true e1)) ?_
                    refine g_go 2 md_45 (i1 := 75) rfl ?_
                    cases H
                    exact n_iret (n_q md_45 rfl) (Or.inr rfl)
    · rw [if_neg h6] at H
      refine n_ifF (n_q md_45 rfl) (fun e1 => h6 (of_decide_eq_true e1)) ?_
      refine g_go 1 md_45 (i1 := 30) rfl ?_
      obtain ⟨v7, s8, hv7, H⟩ := g_bdp H
      refine n_callv (n_q md_45 rfl) (As := [.ref 11]) (rest := []) rfl rfl (Nat.le_of_ble_eq_true rfl) rfl (g_recv (b := 0) rfl t_11 rfl) (C46 (by omega) hv7) ?_
      obtain ⟨hb9, H⟩ := g_gd H
      cases H
      exact n_iret (n_q md_45 rfl) (Or.inr hb9)
  · rw [if_neg h3] at H
    refine n_ifF (n_q md_45 rfl) (fun e1 => h3 (of_decide_eq_true e1)) ?_
    refine g_go 2 md_45 (i1 := 23) rfl ?_
    obtain ⟨v4, s5, hv4, H⟩ := g_bdp H
    refine n_callv (n_q md_45 rfl) (As := [.ref 11, .int 3]) (rest := []) rfl rfl (Nat.le_of_ble_eq_true rfl) rfl (g_recv (b := 0) rfl t_11 rfl) (C67 (by omega) hv4) ?_
    obtain ⟨hb6, H⟩ := g_gd H
    cases H
    exact n_iret (n_q md_45 rfl) (Or.inr hb6)
noncomputable def f45 (s : g_S) : Option (Int32 × g_S) := ((f72 s 0).bind fun v1 => (f71 s 1).bind fun v2 => if v1 = ((-1)) then (if v2 = 0 then (g_bd (f67 s 1) fun v5 s6 => if m_isb v5 = true then some ((v5, s6)) else none) else (f45_17 s v1 v2)) else (f45_17 s v1 v2))
theorem C45 {d ex : Nat} {s : g_S}  {z : Int32 × g_S} (hd : 82 < d) (H : f45 s = some z) : n_C X d 45 [.ref 11] (g_M s ex) (g_rSI z ex) := by
  obtain ⟨d, rfl⟩ : ∃ d1, d = d1 + 1 := ⟨d - 1, by omega⟩
  replace hd := Nat.le_of_lt_succ hd
  refine ⟨Nat.le_of_ble_eq_true rfl, ?_⟩
  rw [md_45]
  show n_R X (d + 1) 45 0 [some (.ref 11), none, none, none] [] (g_M s ex) _
  unfold f45 at H
  refine g_go 2 md_45 (i1 := 2) rfl ?_
  obtain ⟨v1, hv1, H⟩ := g_bind H
  refine n_callv (n_q md_45 rfl) (As := [.ref 11, .ref (m_T0 + 0)]) (rest := []) rfl rfl (Nat.le_of_ble_eq_true rfl) rfl (g_recv (b := 0) rfl t_11 rfl) (C72 (by decide : 0 < m_text.length) (by omega) hv1) ?_
  refine g_go 3 md_45 (i1 := 6) (ls1 := [some (.ref 11), some (.int v1), none, none]) rfl ?_
  obtain ⟨v2, hv2, H⟩ := g_bind H
  refine n_callv (n_q md_45 rfl) (As := [.ref 11, .ref (m_T0 + 1)]) (rest := []) rfl rfl (Nat.le_of_ble_eq_true rfl) rfl (g_recv (b := 0) rfl t_11 rfl) (C71 (by decide : 1 < m_text.length) (by omega) hv2) ?_
  refine g_go 3 md_45 (i1 := 10) (ls1 := [some (.ref 11), some (.int v1), some (.int v2), none]) rfl ?_
  by_cases h3 : v1 = ((-1))
  · rw [if_pos h3] at H
    refine n_cmpF (n_q md_45 rfl) (fun e1 => of_decide_eq_true e1 h3) ?_
    refine g_go 1 md_45 (i1 := 12) rfl ?_
    by_cases h4 : v2 = 0
    · rw [if_pos h4] at H
      refine n_ifF (n_q md_45 rfl) (fun e1 => of_decide_eq_true e1 h4) ?_
      refine g_go 2 md_45 (i1 := 15) rfl ?_
      obtain ⟨v5, s6, hv5, H⟩ := g_bdp H
      refine n_callv (n_q md_45 rfl) (As := [.ref 11, .int 1]) (rest := []) rfl rfl (Nat.le_of_ble_eq_true rfl) rfl (g_recv (b := 0) rfl t_11 rfl) (C67 (by omega) hv5) ?_
      obtain ⟨hb7, H⟩ := g_gd H
      cases H
      exact n_iret (n_q md_45 rfl) (Or.inr hb7)
    · rw [if_neg h4] at H
      refine n_ifT (n_q md_45 rfl) (decide_eq_true h4) ?_
      exact P45_17 H hd
  · rw [if_neg h3] at H
    refine n_cmpT (n_q md_45 rfl) (decide_eq_true h3) ?_
    exact P45_17 H hd

theorem md_44 : m_md 44 = m_X5_readLaw := rfl
noncomputable def f44_33 (s : g_S) (p2 : Int32) (p3 : Nat) (x4 : Int32) (x5 : Int32) : Option ((Int32 × Int32 × g_S) ⊕ (Int32 × g_S)) := (if x4 = 0 then (some (.inr ((s 11 1, s)))) else (if 24 < x5 then (some (.inr ((s 11 1, s)))) else (if (s 11 5) = 258 then (some (.inr ((s 11 1, s)))) else (g_bd (f45 s) fun v4 s5 => if v4 = 0 then (some (.inl (0, (x5 + 1, s5)))) else (g_bd (f64 s5 59) fun v7 s8 => if v7 = 0 then (some (.inl (0, (x5 + 1, s8)))) else (some (.inl (1, (x5 + 1, s8)))))))))
theorem P44_33 {d ex : Nat} {rr : m_R} {s : g_S} {p2 : Int32} {p3 : Nat} {x4 : Int32} {x5 : Int32} (ph3 : g_lay p3 = o_4 p3)  {z : ((Int32 × Int32 × g_S) ⊕ (Int32 × g_S))} (H : f44_33 s p2 p3 x4 x5 = some z) (hd : 83 ≤ d) (K0 : ∀ S : Int32 × Int32 × g_S, z = .inl S → n_R X (d + 1) 44 33 [some (.ref 11), some (.ref 1), some (.int p2), some (.ref p3), some (.int S.1), some (.int S.2.1)] [] (g_M S.2.2 ex) rr) (Kr : ∀ q, z = .inr (q) → g_rSI q ex = rr) : n_R X (d + 1) 44 33 [some (.ref 11), some (.ref 1), some (.int p2), some (.ref p3), some (.int x4), some (.int x5)] [] (g_M s ex) rr := by
  unfold f44_33 at H
  refine g_go 1 md_44 (i1 := 34) rfl ?_
  by_cases h1 : x4 = 0
  · rw [if_pos h1] at H
    refine n_ifT (n_q md_44 rfl) (decide_eq_true h1) ?_
    refine g_go 1 md_44 (i1 := 56) rfl ?_
    refine g_getf (n_q md_44 rfl) t_11 rfl ?_
    cases H
    rw [← Kr _ rfl]
    exact n_iret (n_q md_44 rfl) (Or.inl rfl)
  · rw [if_neg h1] at H
    refine n_ifF (n_q md_44 rfl) (fun e1 => h1 (of_decide_eq_true e1)) ?_
    refine g_go 2 md_44 (i1 := 37) rfl ?_
    by_cases h2 : 24 < x5
    · rw [if_pos h2] at H
      refine n_cmpT (n_q md_44 rfl) (decide_eq_true h2) ?_
      refine g_go 1 md_44 (i1 := 56) rfl ?_
      refine g_getf (n_q md_44 rfl) t_11 rfl ?_
      cases H
      rw [← Kr _ rfl]
      exact n_iret (n_q md_44 rfl) (Or.inl rfl)
    · rw [if_neg h2] at H
      refine n_cmpF (n_q md_44 rfl) (fun e1 => h2 (of_decide_eq_true e1)) ?_
      refine g_go 1 md_44 (i1 := 39) rfl ?_
      refine g_getf (n_q md_44 rfl) t_11 rfl ?_
      refine g_go 1 md_44 (i1 := 41) rfl ?_
      by_cases h3 : (s 11 5) = 258
      · rw [if_pos h3] at H
        refine n_cmpT (n_q md_44 rfl) (decide_eq_true h3) ?_
        refine g_go 1 md_44 (i1 := 56) rfl ?_
        refine g_getf (n_q md_44 rfl) t_11 rfl ?_
        cases H
        rw [← Kr _ rfl]
        exact n_iret (n_q md_44 rfl) (Or.inl rfl)
      · rw [if_neg h3] at H
        refine n_cmpF (n_q md_44 rfl) (fun e1 => h3 (of_decide_eq_true e1)) ?_
        refine g_go 1 md_44 (i1 := 43) rfl ?_
        obtain ⟨v4, s5, hv4, H⟩ := g_bdp H
        refine n_callv (n_q md_44 rfl) (As := [.ref 11]) (rest := []) rfl rfl (Nat.le_of_ble_eq_true rfl) rfl (g_recv (b := 0) rfl t_11 rfl) (C45 (by omega) hv4) ?_
        by_cases h6 : v4 = 0
        · rw [if_pos h6] at H
          refine n_ifT (n_q md_44 rfl) (decide_eq_true h6) ?_
          refine g_go 4 md_44 (i1 := 33) (ls1 := [some (.ref 11), some (.ref 1), some (.int p2), some (.ref p3), some (.int 0), some (.int (x5 + 1))]) rfl ?_
          cases H
          exact K0 (0, (x5 + 1, s5)) rfl
        · rw [if_neg h6] at H
          refine n_ifF (n_q md_44 rfl) (fun e1 => h6 (of_decide_eq_true e1)) ?_
          refine g_go 2 md_44 (i1 := 47) rfl ?_
          obtain ⟨v7, s8, hv7, H⟩ := g_bdp H
          refine n_callv (n_q md_44 rfl) (As := [.ref 11, .int 59]) (rest := []) rfl rfl (Nat.le_of_ble_eq_true rfl) rfl (g_recv (b := 0) rfl t_11 rfl) (C64 (by omega) hv7) ?_
          by_cases h9 : v7 = 0
          · rw [if_pos h9] at H
            refine n_ifT (n_q md_44 rfl) (decide_eq_true h9) ?_
            refine g_go 4 md_44 (i1 := 33) (ls1 := [some (.ref 11), some (.ref 1), some (.int p2), some (.ref p3), some (.int 0), some (.int (x5 + 1))]) rfl ?_
            cases H
            exact K0 (0, (x5 + 1, s8)) rfl
          · rw [if_neg h9] at H
            refine n_ifF (n_q md_44 rfl) (fun e1 => h9 (of_decide_eq_true e1)) ?_
            refine g_go 5 md_44 (i1 := 33) (ls1 := [some (.ref 11), some (.ref 1), some (.int p2), some (.ref p3), some (.int 1), some (.int (x5 + 1))]) rfl ?_
            cases H
            exact K0 (1, (x5 + 1, s8)) rfl
noncomputable def f44_33L (s : g_S) (p2 : Int32) (p3 : Nat) (x4 : Int32) (x5 : Int32) : Option (Int32 × g_S) := g_run (fun S : Int32 × Int32 × g_S => f44_33 S.2.2 p2 p3 S.1 S.2.1) (x4, (x5, s))
theorem f44_33L_eq (s : g_S) (p2 : Int32) (p3 : Nat) (x4 : Int32) (x5 : Int32) : f44_33L s p2 p3 x4 x5 = g_st (f44_33 s p2 p3 x4 x5) (fun S => f44_33L S.2.2 p2 p3 S.1 S.2.1) := by
  unfold f44_33L
  exact g_run_eq _ _
theorem P44_33L {d ex : Nat} {s : g_S} {p2 : Int32} {p3 : Nat} {x4 : Int32} {x5 : Int32} (ph3 : g_lay p3 = o_4 p3)  {z : (Int32 × g_S)} (H : f44_33L s p2 p3 x4 x5 = some z) (hd : 83 ≤ d)  : n_R X (d + 1) 44 33 [some (.ref 11), some (.ref 1), some (.int p2), some (.ref p3), some (.int x4), some (.int x5)] [] (g_M s ex) (g_rSI z ex) := by
  unfold f44_33L at H
  refine g_rs (Q := fun S => n_R X (d + 1) 44 33 [some (.ref 11), some (.ref 1), some (.int p2), some (.ref p3), some (.int S.1), some (.int S.2.1)] [] (g_M S.2.2 ex) (g_rSI z ex)) H ?_
  intro S w hb K0 KK
  refine P44_33 ph3 hb hd ?_ ?_
  · exact fun S1 e1 => K0 S1 e1
  · exact fun q e1 => by rw [KK q e1]
noncomputable def f44 (s : g_S) (p2 : Int32) (p3 : Nat) : Option (Int32 × g_S) := (g_let (g_w s 11 2 (Int32.ofNat 1)) fun s1 => g_let (g_w s1 11 3 (g_min p2 (Int32.ofNat 500))) fun s2 => g_let (g_w s2 11 4 (Int32.ofNat p3)) fun s3 => if g_lay (s3 11 4).toNatClampNeg = o_4 (s3 11 4).toNatClampNeg then (f29 s3 ((s3 11 4).toNatClampNeg)).bind fun s6 => g_let (g_w s6 11 1 0) fun s7 => g_let (g_w s7 11 0 ((-1))) fun s8 => g_let (g_w s8 11 9 0) fun s9 => g_let (g_w s9 11 7 0) fun s10 => (f68 s10).bind fun s12 => f44_33L s12 p2 p3 1 0 else none)
theorem C44 {d ex : Nat} {s : g_S} {p2 : Int32} {p3 : Nat} (ph3 : g_lay p3 = o_4 p3) {z : Int32 × g_S} (hd : 83 < d) (H : f44 s p2 p3 = some z) : n_C X d 44 [.ref 11, .ref 1, .int p2, .ref p3] (g_M s ex) (g_rSI z ex) := by
  obtain ⟨d, rfl⟩ : ∃ d1, d = d1 + 1 := ⟨d - 1, by omega⟩
  replace hd := Nat.le_of_lt_succ hd
  refine ⟨Nat.le_of_ble_eq_true rfl, ?_⟩
  rw [md_44]
  show n_R X (d + 1) 44 0 [some (.ref 11), some (.ref 1), some (.int p2), some (.ref p3), none, none] [] (g_M s ex) _
  unfold f44 at H
  refine g_go 2 md_44 (i1 := 2) rfl ?_
  obtain ⟨s1, es1, H⟩ := g_letp H
  refine g_putd (n_q md_44 rfl) t_11 rfl (g_lta t_1) rfl es1 ?_
  refine g_go 3 md_44 (i1 := 6) rfl ?_
  refine g_alen (n_q md_44 rfl) t_1 ?_
  refine n_min (n_q md_44 rfl) (by omega) (Nat.le_of_ble_eq_true rfl) ?_
  obtain ⟨s2, es2, H⟩ := g_letp H
  refine g_putf (n_q md_44 rfl) t_11 rfl rfl es2 ?_
  refine g_go 2 md_44 (i1 := 11) rfl ?_
  obtain ⟨s3, es3, H⟩ := g_letp H
  refine g_putd (n_q md_44 rfl) t_11 rfl (g_lto ph3 (b := 1) rfl) rfl es3 ?_
  refine g_go 1 md_44 (i1 := 13) rfl ?_
  refine g_getd (n_q md_44 rfl) t_11 rfl ?_
  obtain ⟨h4, H⟩ := g_gd H
  obtain ⟨s6, hs6, H⟩ := g_bind H
  refine n_call (n_q md_44 rfl) (As := [.ref ((s3 11 4).toNatClampNeg)]) (rest := []) rfl rfl (Nat.le_of_ble_eq_true rfl) rfl (g_recv (b := 0) rfl h4 rfl) (C29 h4 (by omega) hs6) ?_
  refine g_go 2 md_44 (i1 := 17) rfl ?_
  obtain ⟨s7, es7, H⟩ := g_letp H
  refine g_putf (n_q md_44 rfl) t_11 rfl rfl es7 ?_
  refine g_go 2 md_44 (i1 := 20) rfl ?_
  obtain ⟨s8, es8, H⟩ := g_letp H
  refine g_putf (n_q md_44 rfl) t_11 rfl rfl es8 ?_
  refine g_go 2 md_44 (i1 := 23) rfl ?_
  obtain ⟨s9, es9, H⟩ := g_letp H
  refine g_putf (n_q md_44 rfl) t_11 rfl rfl es9 ?_
  refine g_go 2 md_44 (i1 := 26) rfl ?_
  obtain ⟨s10, es10, H⟩ := g_letp H
  refine g_putf (n_q md_44 rfl) t_11 rfl rfl es10 ?_
  refine g_go 1 md_44 (i1 := 28) rfl ?_
  obtain ⟨s12, hs12, H⟩ := g_bind H
  refine n_call (n_q md_44 rfl) (As := [.ref 11]) (rest := []) rfl rfl (Nat.le_of_ble_eq_true rfl) rfl (g_recv (b := 0) rfl t_11 rfl) (C68 (by omega) hs12) ?_
  refine g_go 4 md_44 (i1 := 33) (ls1 := [some (.ref 11), some (.ref 1), some (.int p2), some (.ref p3), some (.int 1), some (.int 0)]) rfl ?_
  exact P44_33L ph3 H hd

theorem md_121 : m_md 121 = m_X7_layOnTape := rfl
noncomputable def f121_2 (s : g_S) (p1 : Int32) (x2 : Int32) : Option ((Int32 × g_S) ⊕ (g_S)) := (if x2 < 0 then (some (.inr (s))) else (if (s 0 1) < 500 then (if m_in (s 0 1) 500 = true then g_let (g_w s 1 (s 0 1).toNatClampNeg ((p1 >>> (x2 &&& 31)) &&& 255)) fun s4 => g_let (g_w s4 0 1 ((s4 0 1) + 1)) fun s5 => some (.inl (x2 + (-8), s5)) else none) else (some (.inr (s)))))
theorem P121_2 {d ex : Nat} {rr : m_R} {s : g_S} {p1 : Int32} {x2 : Int32}   {z : ((Int32 × g_S) ⊕ (g_S))} (H : f121_2 s p1 x2 = some z) (hd : 12 ≤ d) (K0 : ∀ S : Int32 × g_S, z = .inl S → n_R X (d + 1) 121 2 [some (.ref 0), some (.int p1), some (.int S.1)] [] (g_M S.2 ex) rr) (Kr : ∀ q, z = .inr (q) → g_rSV q ex = rr) : n_R X (d + 1) 121 2 [some (.ref 0), some (.int p1), some (.int x2)] [] (g_M s ex) rr := by
  unfold f121_2 at H
  refine g_go 1 md_121 (i1 := 3) rfl ?_
  by_cases h1 : x2 < 0
  · rw [if_pos h1] at H
    refine n_ifT (n_q md_121 rfl) (decide_eq_true h1) ?_
    cases H
    rw [← Kr _ rfl]
    exact n_end (n_q md_121 rfl) (fun _ => rfl)
  · rw [if_neg h1] at H
    refine n_ifF (n_q md_121 rfl) (fun e1 => h1 (of_decide_eq_true e1)) ?_
    refine g_go 1 md_121 (i1 := 5) rfl ?_
    refine g_getf (n_q md_121 rfl) t_0 rfl ?_
    refine g_go 1 md_121 (i1 := 7) rfl ?_
    by_cases h2 : (s 0 1) < 500
    · rw [if_pos h2] at H
      refine n_cmpF (n_q md_121 rfl) (fun e1 => absurd (of_decide_eq_true e1) (Int32.not_le.mpr h2)) ?_
      refine g_go 1 md_121 (i1 := 9) rfl ?_
      refine g_getr 1 (n_q md_121 rfl) t_0 rfl ?_
      refine g_go 1 md_121 (i1 := 11) rfl ?_
      refine g_getf (n_q md_121 rfl) t_0 rfl ?_
      refine g_go 5 md_121 (i1 := 17) rfl ?_
      obtain ⟨h3, H⟩ := g_gd H
      obtain ⟨s4, es4, H⟩ := g_letp H
      refine g_iast (n_q md_121 rfl) t_1 h3 es4 ?_
      refine g_go 2 md_121 (i1 := 20) rfl ?_
      refine g_getf (n_q md_121 rfl) t_0 rfl ?_
      refine g_go 2 md_121 (i1 := 23) rfl ?_
      obtain ⟨s5, es5, H⟩ := g_letp H
      refine g_putf (n_q md_121 rfl) t_0 rfl rfl es5 ?_
      refine g_go 2 md_121 (i1 := 2) (ls1 := [some (.ref 0), some (.int p1), some (.int (x2 + (-8)))]) rfl ?_
      cases H
      exact K0 (x2 + (-8), s5) rfl
    · rw [if_neg h2] at H
      refine n_cmpT (n_q md_121 rfl) (decide_eq_true (Int32.not_lt.mp h2)) ?_
      cases H
      rw [← Kr _ rfl]
      exact n_end (n_q md_121 rfl) (fun _ => rfl)
noncomputable def f121_2L (s : g_S) (p1 : Int32) (x2 : Int32) : Option (g_S) := g_run (fun S : Int32 × g_S => f121_2 S.2 p1 S.1) (x2, s)
theorem f121_2L_eq (s : g_S) (p1 : Int32) (x2 : Int32) : f121_2L s p1 x2 = g_st (f121_2 s p1 x2) (fun S => f121_2L S.2 p1 S.1) := by
  unfold f121_2L
  exact g_run_eq _ _
theorem P121_2L {d ex : Nat} {s : g_S} {p1 : Int32} {x2 : Int32}   {z : (g_S)} (H : f121_2L s p1 x2 = some z) (hd : 12 ≤ d)  : n_R X (d + 1) 121 2 [some (.ref 0), some (.int p1), some (.int x2)] [] (g_M s ex) (g_rSV z ex) := by
  unfold f121_2L at H
  refine g_rs (Q := fun S => n_R X (d + 1) 121 2 [some (.ref 0), some (.int p1), some (.int S.1)] [] (g_M S.2 ex) (g_rSV z ex)) H ?_
  intro S w hb K0 KK
  refine P121_2 hb hd ?_ ?_
  · exact fun S1 e1 => K0 S1 e1
  · exact fun q e1 => by rw [KK q e1]
noncomputable def f121 (s : g_S) (p1 : Int32) : Option (g_S) := (f121_2L s p1 24)
theorem C121 {d ex : Nat} {s : g_S} {p1 : Int32}  {z : g_S} (hd : 12 < d) (H : f121 s p1 = some z) : n_C X d 121 [.ref 0, .int p1] (g_M s ex) (g_rSV z ex) := by
  obtain ⟨d, rfl⟩ : ∃ d1, d = d1 + 1 := ⟨d - 1, by omega⟩
  replace hd := Nat.le_of_lt_succ hd
  refine ⟨Nat.le_of_ble_eq_true rfl, ?_⟩
  rw [md_121]
  show n_R X (d + 1) 121 0 [some (.ref 0), some (.int p1), none] [] (g_M s ex) _
  unfold f121 at H
  refine g_go 2 md_121 (i1 := 2) (ls1 := [some (.ref 0), some (.int p1), some (.int 24)]) rfl ?_
  exact P121_2L H hd

theorem md_78 : m_md 78 = m_X7_feed := rfl
noncomputable def f78 (s : g_S) (p1 : Int32) (p2 : Int32) (p3 : Int32) (p4 : Int32) (p5 : Int32) : Option (Int32 × g_S) := (if 500 < ((s 0 1) + 20) then (some (((-1), s))) else ((f121 s p1).bind fun s3 => (f121 s3 p2).bind fun s5 => (f121 s5 p3).bind fun s7 => (f121 s7 p4).bind fun s9 => (f121 s9 p5).bind fun s11 => some ((s11 0 1, s11))))
theorem C78 {d ex : Nat} {s : g_S} {p1 : Int32} {p2 : Int32} {p3 : Int32} {p4 : Int32} {p5 : Int32}  {z : Int32 × g_S} (hd : 13 < d) (H : f78 s p1 p2 p3 p4 p5 = some z) : n_C X d 78 [.ref 0, .int p1, .int p2, .int p3, .int p4, .int p5] (g_M s ex) (g_rSI z ex) := by
  obtain ⟨d, rfl⟩ : ∃ d1, d = d1 + 1 := ⟨d - 1, by omega⟩
  replace hd := Nat.le_of_lt_succ hd
  refine ⟨Nat.le_of_ble_eq_true rfl, ?_⟩
  rw [md_78]
  show n_R X (d + 1) 78 0 [some (.ref 0), some (.int p1), some (.int p2), some (.int p3), some (.int p4), some (.int p5)] [] (g_M s ex) _
  unfold f78 at H
  refine g_go 1 md_78 (i1 := 1) rfl ?_
  refine g_getf (n_q md_78 rfl) t_0 rfl ?_
  refine g_go 3 md_78 (i1 := 5) rfl ?_
  by_cases h1 : 500 < ((s 0 1) + 20)
  · rw [if_pos h1] at H
    refine n_cmpF (n_q md_78 rfl) (fun e1 => absurd (of_decide_eq_true e1) (Int32.not_le.mpr h1)) ?_
    refine g_go 1 md_78 (i1 := 7) rfl ?_
    cases H
    exact n_iret (n_q md_78 rfl) (Or.inl rfl)
  · rw [if_neg h1] at H
    refine n_cmpT (n_q md_78 rfl) (decide_eq_true (Int32.not_lt.mp h1)) ?_
    refine g_go 2 md_78 (i1 := 10) rfl ?_
    obtain ⟨s3, hs3, H⟩ := g_bind H
    refine n_call (n_q md_78 rfl) (As := [.ref 0, .int p1]) (rest := []) rfl rfl (Nat.le_of_ble_eq_true rfl) rfl (g_recv (b := 0) rfl t_0 rfl) (C121 (by omega) hs3) ?_
    refine g_go 2 md_78 (i1 := 13) rfl ?_
    obtain ⟨s5, hs5, H⟩ := g_bind H
    refine n_call (n_q md_78 rfl) (As := [.ref 0, .int p2]) (rest := []) rfl rfl (Nat.le_of_ble_eq_true rfl) rfl (g_recv (b := 0) rfl t_0 rfl) (C121 (by omega) hs5) ?_
    refine g_go 2 md_78 (i1 := 16) rfl ?_
    obtain ⟨s7, hs7, H⟩ := g_bind H
    refine n_call (n_q md_78 rfl) (As := [.ref 0, .int p3]) (rest := []) rfl rfl (Nat.le_of_ble_eq_true rfl) rfl (g_recv (b := 0) rfl t_0 rfl) (C121 (by omega) hs7) ?_
    refine g_go 2 md_78 (i1 := 19) rfl ?_
    obtain ⟨s9, hs9, H⟩ := g_bind H
    refine n_call (n_q md_78 rfl) (As := [.ref 0, .int p4]) (rest := []) rfl rfl (Nat.le_of_ble_eq_true rfl) rfl (g_recv (b := 0) rfl t_0 rfl) (C121 (by omega) hs9) ?_
    refine g_go 2 md_78 (i1 := 22) rfl ?_
    obtain ⟨s11, hs11, H⟩ := g_bind H
    refine n_call (n_q md_78 rfl) (As := [.ref 0, .int p5]) (rest := []) rfl rfl (Nat.le_of_ble_eq_true rfl) rfl (g_recv (b := 0) rfl t_0 rfl) (C121 (by omega) hs11) ?_
    refine g_go 1 md_78 (i1 := 24) rfl ?_
    refine g_getf (n_q md_78 rfl) t_0 rfl ?_
    cases H
    exact n_iret (n_q md_78 rfl) (Or.inl rfl)

theorem md_116 : m_md 116 = m_X7_need := rfl
noncomputable def f116 (s : g_S) (p0 : Int32) : Option ((Unit ⊕ Nat) × g_S) := (if p0 = 0 then (some (.inr 0, s)) else (some ((.inl (), s))))
theorem C116 {d ex : Nat} {s : g_S} {p0 : Int32}  {z : (Unit ⊕ Nat) × g_S} (hd : 12 < d) (H : f116 s p0 = some z) : n_C X d 116 [.int p0] (g_M s ex) (g_rTV z ex) := by
  obtain ⟨d, rfl⟩ : ∃ d1, d = d1 + 1 := ⟨d - 1, by omega⟩
  replace hd := Nat.le_of_lt_succ hd
  refine ⟨Nat.le_of_ble_eq_true rfl, ?_⟩
  rw [md_116]
  show n_R X (d + 1) 116 0 [some (.int p0)] [] (g_M s ex) _
  unfold f116 at H
  refine g_go 1 md_116 (i1 := 1) rfl ?_
  by_cases h1 : p0 = 0
  · rw [if_pos h1] at H
    refine n_ifF (n_q md_116 rfl) (fun e1 => of_decide_eq_true e1 h1) ?_
    cases H
    exact g_throw (n_q md_116 rfl) (by omega) (Nat.le_of_ble_eq_true rfl)
  · rw [if_neg h1] at H
    refine n_ifT (n_q md_116 rfl) (decide_eq_true h1) ?_
    cases H
    exact n_end (n_q md_116 rfl) (fun _ => rfl)

theorem md_79 : m_md 79 = m_X7_law := rfl
noncomputable def f79 (s : g_S) (p1 : Int32) : Option ((Int32 ⊕ Nat) × g_S) := ((f118 s p1 (s 0 1)).bind fun v1 => g_tb (f116 s v1) fun _ s3 => g_let (g_w s3 0 1 0) fun s4 => g_let (g_w s4 0 6 ((-1))) fun s5 => if (s5 0 3) < 4 then (if m_in (s5 0 3) 4 = true then g_bd (f44 s5 p1 (86 + 8 * (s5 0 3).toNatClampNeg)) fun v8 s9 => if v8 = 0 then (g_let (g_w s9 0 3 ((s9 0 3) + 1)) fun s11 => some ((.inl ((s11 0 3) - 1), s11))) else (g_let (g_w s9 0 6 (s9 11 0)) fun s11 => some ((.inl (v8 - 10), s11))) else none) else (some ((.inl ((-1)), s5))))
theorem C79 {d ex : Nat} {s : g_S} {p1 : Int32}  {z : (Int32 ⊕ Nat) × g_S} (hd : 84 < d) (H : f79 s p1 = some z) : n_C X d 79 [.ref 0, .int p1] (g_M s ex) (g_rTI z ex) := by
  obtain ⟨d, rfl⟩ : ∃ d1, d = d1 + 1 := ⟨d - 1, by omega⟩
  replace hd := Nat.le_of_lt_succ hd
  refine ⟨Nat.le_of_ble_eq_true rfl, ?_⟩
  rw [md_79]
  show n_R X (d + 1) 79 0 [some (.ref 0), some (.int p1), none] [] (g_M s ex) _
  unfold f79 at H
  refine g_go 2 md_79 (i1 := 2) rfl ?_
  refine g_getf (n_q md_79 rfl) t_0 rfl ?_
  obtain ⟨v1, hv1, H⟩ := g_bind H
  refine n_callv (n_q md_79 rfl) (As := [.int p1, .int (s 0 1)]) (rest := []) rfl rfl (Nat.le_of_ble_eq_true rfl) rfl rfl (C118 (by omega) hv1) ?_
  rcases g_tbp H with ⟨v2, s3, hv2, H⟩ | ⟨v2, s3, hv2, H⟩
  rotate_left
  · cases H
    refine n_callx (z := .inl none) (n_q md_79 rfl) (As := [.int v1]) (rest := []) rfl rfl (Nat.le_of_ble_eq_true rfl) rfl rfl (C116 (by omega) hv2) rfl
  refine n_call (n_q md_79 rfl) (As := [.int v1]) (rest := []) rfl rfl (Nat.le_of_ble_eq_true rfl) rfl rfl (C116 (by omega) hv2) ?_
  refine g_go 2 md_79 (i1 := 7) rfl ?_
  obtain ⟨s4, es4, H⟩ := g_letp H
  refine g_putf (n_q md_79 rfl) t_0 rfl rfl es4 ?_
  refine g_go 2 md_79 (i1 := 10) rfl ?_
  obtain ⟨s5, es5, H⟩ := g_letp H
  refine g_putf (n_q md_79 rfl) t_0 rfl rfl es5 ?_
  refine g_go 1 md_79 (i1 := 12) rfl ?_
  refine g_getf (n_q md_79 rfl) t_0 rfl ?_
  refine g_go 1 md_79 (i1 := 14) rfl ?_
  by_cases h6 : (s5 0 3) < 4
  · rw [if_pos h6] at H
    refine n_cmpT (n_q md_79 rfl) (decide_eq_true h6) ?_
    refine g_go 1 md_79 (i1 := 18) rfl ?_
    refine g_getr 11 (n_q md_79 rfl) t_0 rfl ?_
    refine g_go 1 md_79 (i1 := 20) rfl ?_
    refine g_getr 1 (n_q md_79 rfl) t_0 rfl ?_
    refine g_go 2 md_79 (i1 := 23) rfl ?_
    refine g_getr 2 (n_q md_79 rfl) t_0 rfl ?_
    refine g_go 1 md_79 (i1 := 25) rfl ?_
    refine g_getf (n_q md_79 rfl) t_0 rfl ?_
    obtain ⟨h7, H⟩ := g_gd H
    refine g_aald (n_q md_79 rfl) ta_2 (by decide) h7 (g_range (g_inlt h7)) ?_
    obtain ⟨v8, s9, hv8, H⟩ := g_bdp H
    refine n_callv (n_q md_79 rfl) (As := [.ref 11, .ref 1, .int p1, .ref (86 + 8 * (s5 0 3).toNatClampNeg)]) (rest := []) rfl rfl (Nat.le_of_ble_eq_true rfl) rfl (g_recv (b := 0) rfl t_11 rfl) (C44 (te_5 (g_inlt h7)) (by omega) hv8) ?_
    refine g_go 2 md_79 (i1 := 30) (ls1 := [some (.ref 0), some (.int p1), some (.int v8)]) rfl ?_
    by_cases h10 : v8 = 0
    · rw [if_pos h10] at H
      refine n_ifT (n_q md_79 rfl) (decide_eq_true h10) ?_
      refine g_go 2 md_79 (i1 := 42) rfl ?_
      refine g_getf (n_q md_79 rfl) t_0 rfl ?_
      refine g_go 2 md_79 (i1 := 45) rfl ?_
      obtain ⟨s11, es11, H⟩ := g_letp H
      refine g_putf (n_q md_79 rfl) t_0 rfl rfl es11 ?_
      refine g_go 1 md_79 (i1 := 47) rfl ?_
      refine g_getf (n_q md_79 rfl) t_0 rfl ?_
      refine g_go 2 md_79 (i1 := 50) rfl ?_
      cases H
      exact n_iret (n_q md_79 rfl) (Or.inl rfl)
    · rw [if_neg h10] at H
      refine n_ifF (n_q md_79 rfl) (fun e1 => h10 (of_decide_eq_true e1)) ?_
      refine g_go 2 md_79 (i1 := 33) rfl ?_
      refine g_getr 11 (n_q md_79 rfl) t_0 rfl ?_
      refine g_getf (n_q md_79 rfl) t_11 rfl ?_
      obtain ⟨s11, es11, H⟩ := g_letp H
      refine g_putf (n_q md_79 rfl) t_0 rfl rfl es11 ?_
      refine g_go 3 md_79 (i1 := 39) rfl ?_
      cases H
      exact n_iret (n_q md_79 rfl) (Or.inl rfl)
  · rw [if_neg h6] at H
    refine n_cmpF (n_q md_79 rfl) (fun e1 => h6 (of_decide_eq_true e1)) ?_
    refine g_go 1 md_79 (i1 := 16) rfl ?_
    cases H
    exact n_iret (n_q md_79 rfl) (Or.inl rfl)

theorem md_80 : m_md 80 = m_X7_fault := rfl
noncomputable def f80 (s : g_S) : Option (Int32) := (some (s 0 6))
theorem C80 {d ex : Nat} {s : g_S}  {z : Int32} (hd : 12 < d) (H : f80 s = some z) : n_C X d 80 [.ref 0] (g_M s ex) (g_rPI s z ex) := by
  obtain ⟨d, rfl⟩ : ∃ d1, d = d1 + 1 := ⟨d - 1, by omega⟩
  replace hd := Nat.le_of_lt_succ hd
  refine ⟨Nat.le_of_ble_eq_true rfl, ?_⟩
  rw [md_80]
  show n_R X (d + 1) 80 0 [some (.ref 0)] [] (g_M s ex) _
  unfold f80 at H
  refine g_go 1 md_80 (i1 := 1) rfl ?_
  refine g_getf (n_q md_80 rfl) t_0 rfl ?_
  cases H
  exact n_iret (n_q md_80 rfl) (Or.inl rfl)

theorem md_119 : m_md 119 = m_X7_isLaw := rfl
noncomputable def f119 (s : g_S) (p1 : Int32) : Option (Int32) := ((f118 s p1 ((s 0 3) - 1)).bind fun v1 => if m_isb v1 = true then some v1 else none)
theorem C119 {d ex : Nat} {s : g_S} {p1 : Int32}  {z : Int32} (hd : 13 < d) (H : f119 s p1 = some z) : n_C X d 119 [.ref 0, .int p1] (g_M s ex) (g_rPI s z ex) := by
  obtain ⟨d, rfl⟩ : ∃ d1, d = d1 + 1 := ⟨d - 1, by omega⟩
  replace hd := Nat.le_of_lt_succ hd
  refine ⟨Nat.le_of_ble_eq_true rfl, ?_⟩
  rw [md_119]
  show n_R X (d + 1) 119 0 [some (.ref 0), some (.int p1)] [] (g_M s ex) _
  unfold f119 at H
  refine g_go 2 md_119 (i1 := 2) rfl ?_
  refine g_getf (n_q md_119 rfl) t_0 rfl ?_
  refine g_go 2 md_119 (i1 := 5) rfl ?_
  obtain ⟨v1, hv1, H⟩ := g_bind H
  refine n_callv (n_q md_119 rfl) (As := [.int p1, .int ((s 0 3) - 1)]) (rest := []) rfl rfl (Nat.le_of_ble_eq_true rfl) rfl rfl (C118 (by omega) hv1) ?_
  obtain ⟨hb2, H⟩ := g_gd H
  cases H
  exact n_iret (n_q md_119 rfl) (Or.inr hb2)

theorem md_81 : m_md 81 = m_X7_force := rfl
noncomputable def f81_10 (s : g_S) (p1 : Int32) (y0 : Int32) : Option ((Int32 ⊕ Nat) × g_S) := (g_tb (f116 s y0) fun _ s2 => g_let (g_w s2 22 5 p1) fun s3 => some ((.inl (s2 22 5), s3)))
theorem P81_10 {d ex : Nat} {s : g_S} {p1 : Int32} {y0 : Int32} {u2 : Option Value}   {z : ((Int32 ⊕ Nat) × g_S)} (H : f81_10 s p1 y0 = some z) (hd : 14 ≤ d)  : n_R X (d + 1) 81 10 [some (.ref 0), some (.int p1), u2] [.int y0] (g_M s ex) (g_rTI z ex) := by
  unfold f81_10 at H
  rcases g_tbp H with ⟨v1, s2, hv1, H⟩ | ⟨v1, s2, hv1, H⟩
  rotate_left
  · cases H
    refine n_callx (z := .inl none) (n_q md_81 rfl) (As := [.int y0]) (rest := []) rfl rfl (Nat.le_of_ble_eq_true rfl) rfl rfl (C116 (by omega) hv1) rfl
  refine n_call (n_q md_81 rfl) (As := [.int y0]) (rest := []) rfl rfl (Nat.le_of_ble_eq_true rfl) rfl rfl (C116 (by omega) hv1) ?_
  refine g_go 1 md_81 (i1 := 12) rfl ?_
  refine g_getr 22 (n_q md_81 rfl) t_0 rfl ?_
  refine g_getf (n_q md_81 rfl) t_22 rfl ?_
  refine g_go 2 md_81 (i1 := 16) (ls1 := [some (.ref 0), some (.int p1), some (.int (s2 22 5))]) rfl ?_
  refine g_getr 22 (n_q md_81 rfl) t_0 rfl ?_
  refine g_go 1 md_81 (i1 := 18) rfl ?_
  obtain ⟨s3, es3, H⟩ := g_letp H
  refine g_putf (n_q md_81 rfl) t_22 rfl rfl es3 ?_
  refine g_go 1 md_81 (i1 := 20) rfl ?_
  cases H
  exact n_iret (n_q md_81 rfl) (Or.inl rfl)
noncomputable def f81_7 (s : g_S) (p1 : Int32) : Option ((Int32 ⊕ Nat) × g_S) := (f81_10 s p1 1)
theorem P81_7 {d ex : Nat} {s : g_S} {p1 : Int32} {u2 : Option Value}   {z : ((Int32 ⊕ Nat) × g_S)} (H : f81_7 s p1 = some z) (hd : 14 ≤ d)  : n_R X (d + 1) 81 7 [some (.ref 0), some (.int p1), u2] [] (g_M s ex) (g_rTI z ex) := by
  unfold f81_7 at H
  refine g_go 2 md_81 (i1 := 10) rfl ?_
  exact P81_10 H hd
noncomputable def f81 (s : g_S) (p1 : Int32) : Option ((Int32 ⊕ Nat) × g_S) := (if p1 = ((-1)) then (f81_7 s p1) else ((f119 s p1).bind fun v2 => if v2 = 0 then (f81_10 s p1 0) else (f81_7 s p1)))
theorem C81 {d ex : Nat} {s : g_S} {p1 : Int32}  {z : (Int32 ⊕ Nat) × g_S} (hd : 14 < d) (H : f81 s p1 = some z) : n_C X d 81 [.ref 0, .int p1] (g_M s ex) (g_rTI z ex) := by
  obtain ⟨d, rfl⟩ : ∃ d1, d = d1 + 1 := ⟨d - 1, by omega⟩
  replace hd := Nat.le_of_lt_succ hd
  refine ⟨Nat.le_of_ble_eq_true rfl, ?_⟩
  rw [md_81]
  show n_R X (d + 1) 81 0 [some (.ref 0), some (.int p1), none] [] (g_M s ex) _
  unfold f81 at H
  refine g_go 2 md_81 (i1 := 2) rfl ?_
  by_cases h1 : p1 = ((-1))
  · rw [if_pos h1] at H
    refine n_cmpT (n_q md_81 rfl) (decide_eq_true h1) ?_
    exact P81_7 H hd
  · rw [if_neg h1] at H
    refine n_cmpF (n_q md_81 rfl) (fun e1 => h1 (of_decide_eq_true e1)) ?_
    refine g_go 2 md_81 (i1 := 5) rfl ?_
    obtain ⟨v2, hv2, H⟩ := g_bind H
    refine n_callv (n_q md_81 rfl) (As := [.ref 0, .int p1]) (rest := []) rfl rfl (Nat.le_of_ble_eq_true rfl) rfl (g_recv (b := 0) rfl t_0 rfl) (C119 (by omega) hv2) ?_
    by_cases h3 : v2 = 0
    · rw [if_pos h3] at H
      refine n_ifT (n_q md_81 rfl) (decide_eq_true h3) ?_
      refine g_go 1 md_81 (i1 := 10) rfl ?_
      exact P81_10 H hd
    · rw [if_neg h3] at H
      refine n_ifF (n_q md_81 rfl) (fun e1 => h3 (of_decide_eq_true e1)) ?_
      exact P81_7 H hd

theorem md_122 : m_md 122 = m_X7_keepingOfCase := rfl
noncomputable def f122 (s : g_S) (p0 : Int32) : Option (Int32) := (some ((p0 / 32) / 6))
theorem C122 {d ex : Nat} {s : g_S} {p0 : Int32}  {z : Int32} (hd : 12 < d) (H : f122 s p0 = some z) : n_C X d 122 [.int p0] (g_M s ex) (g_rPI s z ex) := by
  obtain ⟨d, rfl⟩ : ∃ d1, d = d1 + 1 := ⟨d - 1, by omega⟩
  replace hd := Nat.le_of_lt_succ hd
  refine ⟨Nat.le_of_ble_eq_true rfl, ?_⟩
  rw [md_122]
  show n_R X (d + 1) 122 0 [some (.int p0)] [] (g_M s ex) _
  unfold f122 at H
  refine g_go 2 md_122 (i1 := 2) rfl ?_
  refine n_bin (n_q md_122 rfl) (g_div (by decide : ¬ (32 : Int32) = 0)) ?_
  refine g_go 1 md_122 (i1 := 4) rfl ?_
  refine n_bin (n_q md_122 rfl) (g_div (by decide : ¬ (6 : Int32) = 0)) ?_
  cases H
  exact n_iret (n_q md_122 rfl) (Or.inl rfl)

theorem md_123 : m_md 123 = m_X7_harmOfCase := rfl
noncomputable def f123 (s : g_S) (p0 : Int32) : Option (Int32) := (some ((p0 / 32) - (p0 / 32) / 6 * 6))
theorem C123 {d ex : Nat} {s : g_S} {p0 : Int32}  {z : Int32} (hd : 12 < d) (H : f123 s p0 = some z) : n_C X d 123 [.int p0] (g_M s ex) (g_rPI s z ex) := by
  obtain ⟨d, rfl⟩ : ∃ d1, d = d1 + 1 := ⟨d - 1, by omega⟩
  replace hd := Nat.le_of_lt_succ hd
  refine ⟨Nat.le_of_ble_eq_true rfl, ?_⟩
  rw [md_123]
  show n_R X (d + 1) 123 0 [some (.int p0)] [] (g_M s ex) _
  unfold f123 at H
  refine g_go 2 md_123 (i1 := 2) rfl ?_
  refine n_bin (n_q md_123 rfl) (g_div (by decide : ¬ (32 : Int32) = 0)) ?_
  refine g_go 1 md_123 (i1 := 4) rfl ?_
  refine n_bin (n_q md_123 rfl) (g_rem (by decide : ¬ (6 : Int32) = 0)) ?_
  cases H
  exact n_iret (n_q md_123 rfl) (Or.inl rfl)

theorem md_124 : m_md 124 = m_X7_nameCase := rfl
noncomputable def f124_16 (s : g_S) (p1 : Int32) (p2 : Int32) (p3 : Int32) (p4 : Int32) : Option (g_S) := (g_let (g_w s 21 5 p2) fun s1 => g_let (g_w s1 21 6 p3) fun s2 => g_let (g_w s2 21 7 p4) fun s3 => some s3)
theorem P124_16 {d ex : Nat} {s : g_S} {p1 : Int32} {p2 : Int32} {p3 : Int32} {p4 : Int32} {u5 : Option Value}   {z : (g_S)} (H : f124_16 s p1 p2 p3 p4 = some z) (hd : 12 ≤ d)  : n_R X (d + 1) 124 16 [some (.ref 0), some (.int p1), some (.int p2), some (.int p3), some (.int p4), u5] [] (g_M s ex) (g_rSV z ex) := by
  unfold f124_16 at H
  refine g_go 1 md_124 (i1 := 17) rfl ?_
  refine g_getr 21 (n_q md_124 rfl) t_0 rfl ?_
  refine g_go 2 md_124 (i1 := 20) rfl ?_
  obtain ⟨s1, es1, H⟩ := g_letp H
  refine g_iast (n_q md_124 rfl) t_21 (rfl : m_in 5 8 = true) es1 ?_
  refine g_go 1 md_124 (i1 := 22) rfl ?_
  refine g_getr 21 (n_q md_124 rfl) t_0 rfl ?_
  refine g_go 2 md_124 (i1 := 25) rfl ?_
  obtain ⟨s2, es2, H⟩ := g_letp H
  refine g_iast (n_q md_124 rfl) t_21 (rfl : m_in 6 8 = true) es2 ?_
  refine g_go 1 md_124 (i1 := 27) rfl ?_
  refine g_getr 21 (n_q md_124 rfl) t_0 rfl ?_
  refine g_go 2 md_124 (i1 := 30) rfl ?_
  obtain ⟨s3, es3, H⟩ := g_letp H
  refine g_iast (n_q md_124 rfl) t_21 (rfl : m_in 7 8 = true) es3 ?_
  cases H
  exact n_end (n_q md_124 rfl) (fun _ => rfl)
noncomputable def f124_2 (s : g_S) (p1 : Int32) (p2 : Int32) (p3 : Int32) (p4 : Int32) (x5 : Int32) : Option ((Int32 × g_S) ⊕ (g_S)) := (if x5 < 5 then (if m_in x5 8 = true then g_let (g_w s 21 x5.toNatClampNeg ((p1 >>> (x5 &&& 31)) &&& 1)) fun s3 => some (.inl (x5 + 1, s3)) else none) else (Option.map (fun w => (.inr (w) : ((Int32 × g_S) ⊕ (g_S)))) (f124_16 s p1 p2 p3 p4)))
theorem P124_2 {d ex : Nat} {rr : m_R} {s : g_S} {p1 : Int32} {p2 : Int32} {p3 : Int32} {p4 : Int32} {x5 : Int32}   {z : ((Int32 × g_S) ⊕ (g_S))} (H : f124_2 s p1 p2 p3 p4 x5 = some z) (hd : 12 ≤ d) (K0 : ∀ S : Int32 × g_S, z = .inl S → n_R X (d + 1) 124 2 [some (.ref 0), some (.int p1), some (.int p2), some (.int p3), some (.int p4), some (.int S.1)] [] (g_M S.2 ex) rr) (Kr : ∀ q, z = .inr (q) → g_rSV q ex = rr) : n_R X (d + 1) 124 2 [some (.ref 0), some (.int p1), some (.int p2), some (.int p3), some (.int p4), some (.int x5)] [] (g_M s ex) rr := by
  unfold f124_2 at H
  refine g_go 2 md_124 (i1 := 4) rfl ?_
  by_cases h1 : x5 < 5
  · rw [if_pos h1] at H
    refine n_cmpF (n_q md_124 rfl) (fun e1 => absurd (of_decide_eq_true e1) (Int32.not_le.mpr h1)) ?_
    refine g_go 1 md_124 (i1 := 6) rfl ?_
    refine g_getr 21 (n_q md_124 rfl) t_0 rfl ?_
    refine g_go 6 md_124 (i1 := 13) rfl ?_
    obtain ⟨h2, H⟩ := g_gd H
    obtain ⟨s3, es3, H⟩ := g_letp H
    refine g_iast (n_q md_124 rfl) t_21 h2 es3 ?_
    refine g_go 2 md_124 (i1 := 2) (ls1 := [some (.ref 0), some (.int p1), some (.int p2), some (.int p3), some (.int p4), some (.int (x5 + 1))]) rfl ?_
    cases H
    exact K0 (x5 + 1, s3) rfl
  · rw [if_neg h1] at H
    refine n_cmpT (n_q md_124 rfl) (decide_eq_true (Int32.not_lt.mp h1)) ?_
    obtain ⟨w, hw, H⟩ := g_mapp H
    subst H
    rw [← Kr _ rfl]
    exact P124_16 hw hd
noncomputable def f124_2L (s : g_S) (p1 : Int32) (p2 : Int32) (p3 : Int32) (p4 : Int32) (x5 : Int32) : Option (g_S) := g_run (fun S : Int32 × g_S => f124_2 S.2 p1 p2 p3 p4 S.1) (x5, s)
theorem f124_2L_eq (s : g_S) (p1 : Int32) (p2 : Int32) (p3 : Int32) (p4 : Int32) (x5 : Int32) : f124_2L s p1 p2 p3 p4 x5 = g_st (f124_2 s p1 p2 p3 p4 x5) (fun S => f124_2L S.2 p1 p2 p3 p4 S.1) := by
  unfold f124_2L
  exact g_run_eq _ _
theorem P124_2L {d ex : Nat} {s : g_S} {p1 : Int32} {p2 : Int32} {p3 : Int32} {p4 : Int32} {x5 : Int32}   {z : (g_S)} (H : f124_2L s p1 p2 p3 p4 x5 = some z) (hd : 12 ≤ d)  : n_R X (d + 1) 124 2 [some (.ref 0), some (.int p1), some (.int p2), some (.int p3), some (.int p4), some (.int x5)] [] (g_M s ex) (g_rSV z ex) := by
  unfold f124_2L at H
  refine g_rs (Q := fun S => n_R X (d + 1) 124 2 [some (.ref 0), some (.int p1), some (.int p2), some (.int p3), some (.int p4), some (.int S.1)] [] (g_M S.2 ex) (g_rSV z ex)) H ?_
  intro S w hb K0 KK
  refine P124_2 hb hd ?_ ?_
  · exact fun S1 e1 => K0 S1 e1
  · exact fun q e1 => by rw [KK q e1]
noncomputable def f124 (s : g_S) (p1 : Int32) (p2 : Int32) (p3 : Int32) (p4 : Int32) : Option (g_S) := (f124_2L s p1 p2 p3 p4 0)
theorem C124 {d ex : Nat} {s : g_S} {p1 : Int32} {p2 : Int32} {p3 : Int32} {p4 : Int32}  {z : g_S} (hd : 12 < d) (H : f124 s p1 p2 p3 p4 = some z) : n_C X d 124 [.ref 0, .int p1, .int p2, .int p3, .int p4] (g_M s ex) (g_rSV z ex) := by
  obtain ⟨d, rfl⟩ : ∃ d1, d = d1 + 1 := ⟨d - 1, by omega⟩
  replace hd := Nat.le_of_lt_succ hd
  refine ⟨Nat.le_of_ble_eq_true rfl, ?_⟩
  rw [md_124]
  show n_R X (d + 1) 124 0 [some (.ref 0), some (.int p1), some (.int p2), some (.int p3), some (.int p4), none] [] (g_M s ex) _
  unfold f124 at H
  refine g_go 2 md_124 (i1 := 2) (ls1 := [some (.ref 0), some (.int p1), some (.int p2), some (.int p3), some (.int p4), some (.int 0)]) rfl ?_
  exact P124_2L H hd

theorem md_82 : m_md 82 = m_X7_words := rfl
noncomputable def f82_58 (s : g_S) (p1 : Int32) (p2 : Int32) (p3 : Int32) (p4 : Int32) (p5 : Int32) (p6 : Int32) (x7 : Int32) (y0 : Int32) : Option ((Int32 ⊕ Nat) × g_S) := (if m_in p1 4 = true then (f123 s p2).bind fun v2 => g_bd (f34 s (86 + 8 * p1.toNatClampNeg) y0 x7 v2 21) fun v3 s4 => if v3 = 0 then (some ((.inl 0, s4))) else (some ((.inl 1, s4))) else none)
theorem P82_58 {d ex : Nat} {s : g_S} {p1 : Int32} {p2 : Int32} {p3 : Int32} {p4 : Int32} {p5 : Int32} {p6 : Int32} {x7 : Int32} {y0 : Int32} {u8 : Option Value}   {z : ((Int32 ⊕ Nat) × g_S)} (H : f82_58 s p1 p2 p3 p4 p5 p6 x7 y0 = some z) (hd : 15 ≤ d)  : n_R X (d + 1) 82 58 [some (.ref 0), some (.int p1), some (.int p2), some (.int p3), some (.int p4), some (.int p5), some (.int p6), some (.int x7), u8] [.int y0] (g_M s ex) (g_rTI z ex) := by
  unfold f82_58 at H
  refine g_go 2 md_82 (i1 := 60) (ls1 := [some (.ref 0), some (.int p1), some (.int p2), some (.int p3), some (.int p4), some (.int p5), some (.int p6), some (.int x7), some (.int y0)]) rfl ?_
  refine g_getr 2 (n_q md_82 rfl) t_0 rfl ?_
  refine g_go 1 md_82 (i1 := 62) rfl ?_
  obtain ⟨h1, H⟩ := g_gd H
  refine g_aald (n_q md_82 rfl) ta_2 (by decide) h1 (g_range (g_inlt h1)) ?_
  refine g_go 3 md_82 (i1 := 66) rfl ?_
  obtain ⟨v2, hv2, H⟩ := g_bind H
  refine n_callv (n_q md_82 rfl) (As := [.int p2]) (rest := [.int x7, .int y0, .ref (86 + 8 * p1.toNatClampNeg)]) rfl rfl (Nat.le_of_ble_eq_true rfl) rfl rfl (C123 (by omega) hv2) ?_
  refine g_go 1 md_82 (i1 := 68) rfl ?_
  refine g_getr 21 (n_q md_82 rfl) t_0 rfl ?_
  obtain ⟨v3, s4, hv3, H⟩ := g_bdp H
  refine n_callv (n_q md_82 rfl) (As := [.ref (86 + 8 * p1.toNatClampNeg), .int y0, .int x7, .int v2, .ref 21]) (rest := []) rfl rfl (Nat.le_of_ble_eq_true rfl) rfl (g_recv (b := 0) rfl (te_5 (g_inlt h1)) rfl) (C34 (te_5 (g_inlt h1)) t_21 (by omega) hv3) ?_
  by_cases h5 : v3 = 0
  · rw [if_pos h5] at H
    refine n_ifT (n_q md_82 rfl) (decide_eq_true h5) ?_
    refine g_go 1 md_82 (i1 := 74) rfl ?_
    cases H
    exact n_iret (n_q md_82 rfl) (Or.inl rfl)
  · rw [if_neg h5] at H
    refine n_ifF (n_q md_82 rfl) (fun e1 => h5 (of_decide_eq_true e1)) ?_
    refine g_go 2 md_82 (i1 := 74) rfl ?_
    cases H
    exact n_iret (n_q md_82 rfl) (Or.inl rfl)
noncomputable def f82_31 (s : g_S) (p1 : Int32) (p2 : Int32) (p3 : Int32) (p4 : Int32) (p5 : Int32) (p6 : Int32) (y0 : Int32) : Option ((Int32 ⊕ Nat) × g_S) := (g_tb (f116 s y0) fun _ s2 => (f124 s2 p2 p3 p4 p5).bind fun s4 => (f122 s4 p2).bind fun v5 => if p6 = 2 then (if m_in p1 4 = true then g_bd (f35 s4 (86 + 8 * p1.toNatClampNeg) v5 21) fun v8 s9 => some ((.inl v8, s9)) else none) else (if p6 = 0 then (f82_58 s4 p1 p2 p3 p4 p5 p6 v5 0) else (f82_58 s4 p1 p2 p3 p4 p5 p6 v5 1)))
theorem P82_31 {d ex : Nat} {s : g_S} {p1 : Int32} {p2 : Int32} {p3 : Int32} {p4 : Int32} {p5 : Int32} {p6 : Int32} {y0 : Int32} {u7 u8 : Option Value}   {z : ((Int32 ⊕ Nat) × g_S)} (H : f82_31 s p1 p2 p3 p4 p5 p6 y0 = some z) (hd : 15 ≤ d)  : n_R X (d + 1) 82 31 [some (.ref 0), some (.int p1), some (.int p2), some (.int p3), some (.int p4), some (.int p5), some (.int p6), u7, u8] [.int y0] (g_M s ex) (g_rTI z ex) := by
  unfold f82_31 at H
  rcases g_tbp H with ⟨v1, s2, hv1, H⟩ | ⟨v1, s2, hv1, H⟩
  rotate_left
  · cases H
    refine n_callx (z := .inl none) (n_q md_82 rfl) (As := [.int y0]) (rest := []) rfl rfl (Nat.le_of_ble_eq_true rfl) rfl rfl (C116 (by omega) hv1) rfl
  refine n_call (n_q md_82 rfl) (As := [.int y0]) (rest := []) rfl rfl (Nat.le_of_ble_eq_true rfl) rfl rfl (C116 (by omega) hv1) ?_
  refine g_go 5 md_82 (i1 := 37) rfl ?_
  obtain ⟨s4, hs4, H⟩ := g_bind H
  refine n_call (n_q md_82 rfl) (As := [.ref 0, .int p2, .int p3, .int p4, .int p5]) (rest := []) rfl rfl (Nat.le_of_ble_eq_true rfl) rfl (g_recv (b := 0) rfl t_0 rfl) (C124 (by omega) hs4) ?_
  refine g_go 1 md_82 (i1 := 39) rfl ?_
  obtain ⟨v5, hv5, H⟩ := g_bind H
  refine n_callv (n_q md_82 rfl) (As := [.int p2]) (rest := []) rfl rfl (Nat.le_of_ble_eq_true rfl) rfl rfl (C122 (by omega) hv5) ?_
  refine g_go 3 md_82 (i1 := 43) (ls1 := [some (.ref 0), some (.int p1), some (.int p2), some (.int p3), some (.int p4), some (.int p5), some (.int p6), some (.int v5), u8]) rfl ?_
  by_cases h6 : p6 = 2
  · rw [if_pos h6] at H
    refine n_cmpF (n_q md_82 rfl) (fun e1 => of_decide_eq_true e1 h6) ?_
    refine g_go 1 md_82 (i1 := 45) rfl ?_
    refine g_getr 2 (n_q md_82 rfl) t_0 rfl ?_
    refine g_go 1 md_82 (i1 := 47) rfl ?_
    obtain ⟨h7, H⟩ := g_gd H
    refine g_aald (n_q md_82 rfl) ta_2 (by decide) h7 (g_range (g_inlt h7)) ?_
    refine g_go 2 md_82 (i1 := 50) rfl ?_
    refine g_getr 21 (n_q md_82 rfl) t_0 rfl ?_
    obtain ⟨v8, s9, hv8, H⟩ := g_bdp H
    refine n_callv (n_q md_82 rfl) (As := [.ref (86 + 8 * p1.toNatClampNeg), .int v5, .ref 21]) (rest := []) rfl rfl (Nat.le_of_ble_eq_true rfl) rfl (g_recv (b := 0) rfl (te_5 (g_inlt h7)) rfl) (C35 (te_5 (g_inlt h7)) t_21 (by omega) hv8) ?_
    cases H
    exact n_iret (n_q md_82 rfl) (Or.inl rfl)
  · rw [if_neg h6] at H
    refine n_cmpT (n_q md_82 rfl) (decide_eq_true h6) ?_
    refine g_go 1 md_82 (i1 := 54) rfl ?_
    by_cases h7 : p6 = 0
    · rw [if_pos h7] at H
      refine n_ifF (n_q md_82 rfl) (fun e1 => of_decide_eq_true e1 h7) ?_
      refine g_go 2 md_82 (i1 := 58) rfl ?_
      exact P82_58 H hd
    · rw [if_neg h7] at H
      refine n_ifT (n_q md_82 rfl) (decide_eq_true h7) ?_
      refine g_go 1 md_82 (i1 := 58) rfl ?_
      exact P82_58 H hd
noncomputable def f82_30 (s : g_S) (p1 : Int32) (p2 : Int32) (p3 : Int32) (p4 : Int32) (p5 : Int32) (p6 : Int32) : Option ((Int32 ⊕ Nat) × g_S) := (f82_31 s p1 p2 p3 p4 p5 p6 0)
theorem P82_30 {d ex : Nat} {s : g_S} {p1 : Int32} {p2 : Int32} {p3 : Int32} {p4 : Int32} {p5 : Int32} {p6 : Int32} {u7 u8 : Option Value}   {z : ((Int32 ⊕ Nat) × g_S)} (H : f82_30 s p1 p2 p3 p4 p5 p6 = some z) (hd : 15 ≤ d)  : n_R X (d + 1) 82 30 [some (.ref 0), some (.int p1), some (.int p2), some (.int p3), some (.int p4), some (.int p5), some (.int p6), u7, u8] [] (g_M s ex) (g_rTI z ex) := by
  unfold f82_30 at H
  refine g_go 1 md_82 (i1 := 31) rfl ?_
  exact P82_31 H hd
noncomputable def f82_15 (s : g_S) (p1 : Int32) (p2 : Int32) (p3 : Int32) (p4 : Int32) (p5 : Int32) (p6 : Int32) (y0 : Int32) : Option ((Int32 ⊕ Nat) × g_S) := (g_tb (f116 s y0) fun _ s2 => (f118 s2 p4 9999).bind fun v3 => if v3 = 0 then (f82_30 s2 p1 p2 p3 p4 p5 p6) else ((f118 s2 p5 9999).bind fun v5 => if v5 = 0 then (f82_30 s2 p1 p2 p3 p4 p5 p6) else ((f118 s2 p6 2).bind fun v7 => if v7 = 0 then (f82_30 s2 p1 p2 p3 p4 p5 p6) else (f82_31 s2 p1 p2 p3 p4 p5 p6 1))))
theorem P82_15 {d ex : Nat} {s : g_S} {p1 : Int32} {p2 : Int32} {p3 : Int32} {p4 : Int32} {p5 : Int32} {p6 : Int32} {y0 : Int32} {u7 u8 : Option Value}   {z : ((Int32 ⊕ Nat) × g_S)} (H : f82_15 s p1 p2 p3 p4 p5 p6 y0 = some z) (hd : 15 ≤ d)  : n_R X (d + 1) 82 15 [some (.ref 0), some (.int p1), some (.int p2), some (.int p3), some (.int p4), some (.int p5), some (.int p6), u7, u8] [.int y0] (g_M s ex) (g_rTI z ex) := by
  unfold f82_15 at H
  rcases g_tbp H with ⟨v1, s2, hv1, H⟩ | ⟨v1, s2, hv1, H⟩
  rotate_left
  · cases H
    refine n_callx (z := .inl none) (n_q md_82 rfl) (As := [.int y0]) (rest := []) rfl rfl (Nat.le_of_ble_eq_true rfl) rfl rfl (C116 (by omega) hv1) rfl
  refine n_call (n_q md_82 rfl) (As := [.int y0]) (rest := []) rfl rfl (Nat.le_of_ble_eq_true rfl) rfl rfl (C116 (by omega) hv1) ?_
  refine g_go 2 md_82 (i1 := 18) rfl ?_
  obtain ⟨v3, hv3, H⟩ := g_bind H
  refine n_callv (n_q md_82 rfl) (As := [.int p4, .int 9999]) (rest := []) rfl rfl (Nat.le_of_ble_eq_true rfl) rfl rfl (C118 (by omega) hv3) ?_
  by_cases h4 : v3 = 0
  · rw [if_pos h4] at H
    refine n_ifT (n_q md_82 rfl) (decide_eq_true h4) ?_
    exact P82_30 H hd
  · rw [if_neg h4] at H
    refine n_ifF (n_q md_82 rfl) (fun e1 => h4 (of_decide_eq_true e1)) ?_
    refine g_go 2 md_82 (i1 := 22) rfl ?_
    obtain ⟨v5, hv5, H⟩ := g_bind H
    refine n_callv (n_q md_82 rfl) (As := [.int p5, .int 9999]) (rest := []) rfl rfl (Nat.le_of_ble_eq_true rfl) rfl rfl (C118 (by omega) hv5) ?_
    by_cases h6 : v5 = 0
    · rw [if_pos h6] at H
      refine n_ifT (n_q md_82 rfl) (decide_eq_true h6) ?_
      exact P82_30 H hd
    · rw [if_neg h6] at H
      refine n_ifF (n_q md_82 rfl) (fun e1 => h6 (of_decide_eq_true e1)) ?_
      refine g_go 2 md_82 (i1 := 26) rfl ?_
      obtain ⟨v7, hv7, H⟩ := g_bind H
      refine n_callv (n_q md_82 rfl) (As := [.int p6, .int 2]) (rest := []) rfl rfl (Nat.le_of_ble_eq_true rfl) rfl rfl (C118 (by omega) hv7) ?_
      by_cases h8 : v7 = 0
      · rw [if_pos h8] at H
        refine n_ifT (n_q md_82 rfl) (decide_eq_true h8) ?_
        exact P82_30 H hd
      · rw [if_neg h8] at H
        refine n_ifF (n_q md_82 rfl) (fun e1 => h8 (of_decide_eq_true e1)) ?_
        refine g_go 2 md_82 (i1 := 31) rfl ?_
        exact P82_31 H hd
noncomputable def f82_14 (s : g_S) (p1 : Int32) (p2 : Int32) (p3 : Int32) (p4 : Int32) (p5 : Int32) (p6 : Int32) : Option ((Int32 ⊕ Nat) × g_S) := (f82_15 s p1 p2 p3 p4 p5 p6 0)
theorem P82_14 {d ex : Nat} {s : g_S} {p1 : Int32} {p2 : Int32} {p3 : Int32} {p4 : Int32} {p5 : Int32} {p6 : Int32} {u7 u8 : Option Value}   {z : ((Int32 ⊕ Nat) × g_S)} (H : f82_14 s p1 p2 p3 p4 p5 p6 = some z) (hd : 15 ≤ d)  : n_R X (d + 1) 82 14 [some (.ref 0), some (.int p1), some (.int p2), some (.int p3), some (.int p4), some (.int p5), some (.int p6), u7, u8] [] (g_M s ex) (g_rTI z ex) := by
  unfold f82_14 at H
  refine g_go 1 md_82 (i1 := 15) rfl ?_
  exact P82_15 H hd
noncomputable def f82 (s : g_S) (p1 : Int32) (p2 : Int32) (p3 : Int32) (p4 : Int32) (p5 : Int32) (p6 : Int32) : Option ((Int32 ⊕ Nat) × g_S) := ((f119 s p1).bind fun v1 => if v1 = 0 then (f82_14 s p1 p2 p3 p4 p5 p6) else ((f118 s p2 1151).bind fun v3 => if v3 = 0 then (f82_14 s p1 p2 p3 p4 p5 p6) else ((f118 s p3 3).bind fun v5 => if v5 = 0 then (f82_14 s p1 p2 p3 p4 p5 p6) else (f82_15 s p1 p2 p3 p4 p5 p6 1))))
theorem C82 {d ex : Nat} {s : g_S} {p1 : Int32} {p2 : Int32} {p3 : Int32} {p4 : Int32} {p5 : Int32} {p6 : Int32}  {z : (Int32 ⊕ Nat) × g_S} (hd : 15 < d) (H : f82 s p1 p2 p3 p4 p5 p6 = some z) : n_C X d 82 [.ref 0, .int p1, .int p2, .int p3, .int p4, .int p5, .int p6] (g_M s ex) (g_rTI z ex) := by
  obtain ⟨d, rfl⟩ : ∃ d1, d = d1 + 1 := ⟨d - 1, by omega⟩
  replace hd := Nat.le_of_lt_succ hd
  refine ⟨Nat.le_of_ble_eq_true rfl, ?_⟩
  rw [md_82]
  show n_R X (d + 1) 82 0 [some (.ref 0), some (.int p1), some (.int p2), some (.int p3), some (.int p4), some (.int p5), some (.int p6), none, none] [] (g_M s ex) _
  unfold f82 at H
  refine g_go 2 md_82 (i1 := 2) rfl ?_
  obtain ⟨v1, hv1, H⟩ := g_bind H
  refine n_callv (n_q md_82 rfl) (As := [.ref 0, .int p1]) (rest := []) rfl rfl (Nat.le_of_ble_eq_true rfl) rfl (g_recv (b := 0) rfl t_0 rfl) (C119 (by omega) hv1) ?_
  by_cases h2 : v1 = 0
  · rw [if_pos h2] at H
    refine n_ifT (n_q md_82 rfl) (decide_eq_true h2) ?_
    exact P82_14 H hd
  · rw [if_neg h2] at H
    refine n_ifF (n_q md_82 rfl) (fun e1 => h2 (of_decide_eq_true e1)) ?_
    refine g_go 2 md_82 (i1 := 6) rfl ?_
    obtain ⟨v3, hv3, H⟩ := g_bind H
    refine n_callv (n_q md_82 rfl) (As := [.int p2, .int 1151]) (rest := []) rfl rfl (Nat.le_of_ble_eq_true rfl) rfl rfl (C118 (by omega) hv3) ?_
    by_cases h4 : v3 = 0
    · rw [if_pos h4] at H
      refine n_ifT (n_q md_82 rfl) (decide_eq_true h4) ?_
      exact P82_14 H hd
    · rw [if_neg h4] at H
      refine n_ifF (n_q md_82 rfl) (fun e1 => h4 (of_decide_eq_true e1)) ?_
      refine g_go 2 md_82 (i1 := 10) rfl ?_
      obtain ⟨v5, hv5, H⟩ := g_bind H
      refine n_callv (n_q md_82 rfl) (As := [.int p3, .int 3]) (rest := []) rfl rfl (Nat.le_of_ble_eq_true rfl) rfl rfl (C118 (by omega) hv5) ?_
      by_cases h6 : v5 = 0
      · rw [if_pos h6] at H
        refine n_ifT (n_q md_82 rfl) (decide_eq_true h6) ?_
        exact P82_14 H hd
      · rw [if_neg h6] at H
        refine n_ifF (n_q md_82 rfl) (fun e1 => h6 (of_decide_eq_true e1)) ?_
        refine g_go 2 md_82 (i1 := 15) rfl ?_
        exact P82_15 H hd

theorem md_83 : m_md 83 = m_X7_lets := rfl
noncomputable def f83_15 (s : g_S) (p1 : Int32) (p2 : Int32) (p3 : Int32) (y0 : Int32) : Option ((Int32 ⊕ Nat) × g_S) := (g_tb (f116 s y0) fun _ s2 => if p3 = 0 then (if m_in p1 4 = true then (f38 s2 (86 + 8 * p1.toNatClampNeg) p2).bind fun v5 => if m_isb v5 = true then some ((.inl v5, s2)) else none else none) else (if m_in p1 4 = true then (f37 s2 (86 + 8 * p1.toNatClampNeg) p2 p3).bind fun v5 => if m_isb v5 = true then some ((.inl v5, s2)) else none else none))
theorem P83_15 {d ex : Nat} {s : g_S} {p1 : Int32} {p2 : Int32} {p3 : Int32} {y0 : Int32}   {z : ((Int32 ⊕ Nat) × g_S)} (H : f83_15 s p1 p2 p3 y0 = some z) (hd : 14 ≤ d)  : n_R X (d + 1) 83 15 [some (.ref 0), some (.int p1), some (.int p2), some (.int p3)] [.int y0] (g_M s ex) (g_rTI z ex) := by
  unfold f83_15 at H
  rcases g_tbp H with ⟨v1, s2, hv1, H⟩ | ⟨v1, s2, hv1, H⟩
  rotate_left
  · cases H
    refine n_callx (z := .inl none) (n_q md_83 rfl) (As := [.int y0]) (rest := []) rfl rfl (Nat.le_of_ble_eq_true rfl) rfl rfl (C116 (by omega) hv1) rfl
  refine n_call (n_q md_83 rfl) (As := [.int y0]) (rest := []) rfl rfl (Nat.le_of_ble_eq_true rfl) rfl rfl (C116 (by omega) hv1) ?_
  refine g_go 1 md_83 (i1 := 17) rfl ?_
  by_cases h3 : p3 = 0
  · rw [if_pos h3] at H
    refine n_ifF (n_q md_83 rfl) (fun e1 => of_decide_eq_true e1 h3) ?_
    refine g_go 1 md_83 (i1 := 19) rfl ?_
    refine g_getr 2 (n_q md_83 rfl) t_0 rfl ?_
    refine g_go 1 md_83 (i1 := 21) rfl ?_
    obtain ⟨h4, H⟩ := g_gd H
    refine g_aald (n_q md_83 rfl) ta_2 (by decide) h4 (g_range (g_inlt h4)) ?_
    refine g_go 1 md_83 (i1 := 23) rfl ?_
    obtain ⟨v5, hv5, H⟩ := g_bind H
    refine n_callv (n_q md_83 rfl) (As := [.ref (86 + 8 * p1.toNatClampNeg), .int p2]) (rest := []) rfl rfl (Nat.le_of_ble_eq_true rfl) rfl (g_recv (b := 0) rfl (te_5 (g_inlt h4)) rfl) (C38 (te_5 (g_inlt h4)) (by omega) hv5) ?_
    refine g_go 1 md_83 (i1 := 32) rfl ?_
    obtain ⟨hb6, H⟩ := g_gd H
    cases H
    exact n_iret (n_q md_83 rfl) (Or.inr hb6)
  · rw [if_neg h3] at H
    refine n_ifT (n_q md_83 rfl) (decide_eq_true h3) ?_
    refine g_go 1 md_83 (i1 := 26) rfl ?_
    refine g_getr 2 (n_q md_83 rfl) t_0 rfl ?_
    refine g_go 1 md_83 (i1 := 28) rfl ?_
    obtain ⟨h4, H⟩ := g_gd H
    refine g_aald (n_q md_83 rfl) ta_2 (by decide) h4 (g_range (g_inlt h4)) ?_
    refine g_go 2 md_83 (i1 := 31) rfl ?_
    obtain ⟨v5, hv5, H⟩ := g_bind H
    refine n_callv (n_q md_83 rfl) (As := [.ref (86 + 8 * p1.toNatClampNeg), .int p2, .int p3]) (rest := []) rfl rfl (Nat.le_of_ble_eq_true rfl) rfl (g_recv (b := 0) rfl (te_5 (g_inlt h4)) rfl) (C37 (te_5 (g_inlt h4)) (by omega) hv5) ?_
    obtain ⟨hb6, H⟩ := g_gd H
    cases H
    exact n_iret (n_q md_83 rfl) (Or.inr hb6)
noncomputable def f83_14 (s : g_S) (p1 : Int32) (p2 : Int32) (p3 : Int32) : Option ((Int32 ⊕ Nat) × g_S) := (f83_15 s p1 p2 p3 0)
theorem P83_14 {d ex : Nat} {s : g_S} {p1 : Int32} {p2 : Int32} {p3 : Int32}   {z : ((Int32 ⊕ Nat) × g_S)} (H : f83_14 s p1 p2 p3 = some z) (hd : 14 ≤ d)  : n_R X (d + 1) 83 14 [some (.ref 0), some (.int p1), some (.int p2), some (.int p3)] [] (g_M s ex) (g_rTI z ex) := by
  unfold f83_14 at H
  refine g_go 1 md_83 (i1 := 15) rfl ?_
  exact P83_15 H hd
noncomputable def f83 (s : g_S) (p1 : Int32) (p2 : Int32) (p3 : Int32) : Option ((Int32 ⊕ Nat) × g_S) := ((f119 s p1).bind fun v1 => if v1 = 0 then (f83_14 s p1 p2 p3) else ((f118 s p2 5).bind fun v3 => if v3 = 0 then (f83_14 s p1 p2 p3) else ((f118 s p3 3).bind fun v5 => if v5 = 0 then (f83_14 s p1 p2 p3) else (f83_15 s p1 p2 p3 1))))
theorem C83 {d ex : Nat} {s : g_S} {p1 : Int32} {p2 : Int32} {p3 : Int32}  {z : (Int32 ⊕ Nat) × g_S} (hd : 14 < d) (H : f83 s p1 p2 p3 = some z) : n_C X d 83 [.ref 0, .int p1, .int p2, .int p3] (g_M s ex) (g_rTI z ex) := by
  obtain ⟨d, rfl⟩ : ∃ d1, d = d1 + 1 := ⟨d - 1, by omega⟩
  replace hd := Nat.le_of_lt_succ hd
  refine ⟨Nat.le_of_ble_eq_true rfl, ?_⟩
  rw [md_83]
  show n_R X (d + 1) 83 0 [some (.ref 0), some (.int p1), some (.int p2), some (.int p3)] [] (g_M s ex) _
  unfold f83 at H
  refine g_go 2 md_83 (i1 := 2) rfl ?_
  obtain ⟨v1, hv1, H⟩ := g_bind H
  refine n_callv (n_q md_83 rfl) (As := [.ref 0, .int p1]) (rest := []) rfl rfl (Nat.le_of_ble_eq_true rfl) rfl (g_recv (b := 0) rfl t_0 rfl) (C119 (by omega) hv1) ?_
  by_cases h2 : v1 = 0
  · rw [if_pos h2] at H
    refine n_ifT (n_q md_83 rfl) (decide_eq_true h2) ?_
    exact P83_14 H hd
  · rw [if_neg h2] at H
    refine n_ifF (n_q md_83 rfl) (fun e1 => h2 (of_decide_eq_true e1)) ?_
    refine g_go 2 md_83 (i1 := 6) rfl ?_
    obtain ⟨v3, hv3, H⟩ := g_bind H
    refine n_callv (n_q md_83 rfl) (As := [.int p2, .int 5]) (rest := []) rfl rfl (Nat.le_of_ble_eq_true rfl) rfl rfl (C118 (by omega) hv3) ?_
    by_cases h4 : v3 = 0
    · rw [if_pos h4] at H
      refine n_ifT (n_q md_83 rfl) (decide_eq_true h4) ?_
      exact P83_14 H hd
    · rw [if_neg h4] at H
      refine n_ifF (n_q md_83 rfl) (fun e1 => h4 (of_decide_eq_true e1)) ?_
      refine g_go 2 md_83 (i1 := 10) rfl ?_
      obtain ⟨v5, hv5, H⟩ := g_bind H
      refine n_callv (n_q md_83 rfl) (As := [.int p3, .int 3]) (rest := []) rfl rfl (Nat.le_of_ble_eq_true rfl) rfl rfl (C118 (by omega) hv5) ?_
      by_cases h6 : v5 = 0
      · rw [if_pos h6] at H
        refine n_ifT (n_q md_83 rfl) (decide_eq_true h6) ?_
        exact P83_14 H hd
      · rw [if_neg h6] at H
        refine n_ifF (n_q md_83 rfl) (fun e1 => h6 (of_decide_eq_true e1)) ?_
        refine g_go 2 md_83 (i1 := 15) rfl ?_
        exact P83_15 H hd

theorem md_84 : m_md 84 = m_X7_pass := rfl
noncomputable def f84_73 (s : g_S) (p1 : Int32) (p2 : Int32) (p3 : Int32) (p4 : Int32) (p5 : Int32) (y0 : Nat) (y1 : Int32) : Option ((Int32 ⊕ Nat) × g_S) := (g_let (g_w s y0 4 y1) fun s1 => g_let (g_w s1 22 1 ((s1 22 1) + 1)) fun s2 => some ((.inl ((s2 22 1) - 1), s2)))
theorem P84_73 {d ex : Nat} {s : g_S} {p1 : Int32} {p2 : Int32} {p3 : Int32} {p4 : Int32} {p5 : Int32} {y0 : Nat} {y1 : Int32} {u6 : Option Value}  (hy0 : g_lay y0 = o_3 y0) {z : ((Int32 ⊕ Nat) × g_S)} (H : f84_73 s p1 p2 p3 p4 p5 y0 y1 = some z) (hd : 13 ≤ d)  : n_R X (d + 1) 84 73 [some (.ref 0), some (.int p1), some (.int p2), some (.int p3), some (.int p4), some (.int p5), u6] [.int y1, .ref y0] (g_M s ex) (g_rTI z ex) := by
  unfold f84_73 at H
  obtain ⟨s1, es1, H⟩ := g_letp H
  refine g_putf (n_q md_84 rfl) hy0 rfl rfl es1 ?_
  refine g_go 1 md_84 (i1 := 75) rfl ?_
  refine g_getr 22 (n_q md_84 rfl) t_0 rfl ?_
  refine g_go 1 md_84 (i1 := 77) rfl ?_
  refine g_getf (n_q md_84 rfl) t_22 rfl ?_
  refine g_go 2 md_84 (i1 := 80) rfl ?_
  obtain ⟨s2, es2, H⟩ := g_letp H
  refine g_putf (n_q md_84 rfl) t_22 rfl rfl es2 ?_
  refine g_go 1 md_84 (i1 := 82) rfl ?_
  refine g_getr 22 (n_q md_84 rfl) t_0 rfl ?_
  refine g_getf (n_q md_84 rfl) t_22 rfl ?_
  refine g_go 2 md_84 (i1 := 86) rfl ?_
  cases H
  exact n_iret (n_q md_84 rfl) (Or.inl rfl)
noncomputable def f84_23 (s : g_S) (p1 : Int32) (p2 : Int32) (p3 : Int32) (p4 : Int32) (p5 : Int32) (y0 : Int32) : Option ((Int32 ⊕ Nat) × g_S) := (g_tb (f116 s y0) fun _ s2 => if (s2 22 1) < 13 then (if m_in ((s2 22 1) - 1) 13 = true then if p2 < (s2 (28 + ((s2 22 1) - 1).toNatClampNeg) 1) then (some ((.inl ((-2)), s2))) else (if m_in (s2 22 1) 13 = true then (f23 s2 (28 + (s2 22 1).toNatClampNeg)).bind fun s8 => g_let (g_w s8 (28 + (s2 22 1).toNatClampNeg) 0 p1) fun s9 => g_let (g_w s9 (28 + (s2 22 1).toNatClampNeg) 1 p2) fun s10 => g_let (g_w s10 (28 + (s2 22 1).toNatClampNeg) 2 p3) fun s11 => g_let (g_w s11 (28 + (s2 22 1).toNatClampNeg) 3 p4) fun s12 => if p5 = 0 then (f84_73 s12 p1 p2 p3 p4 p5 (28 + (s2 22 1).toNatClampNeg) 0) else (f84_73 s12 p1 p2 p3 p4 p5 (28 + (s2 22 1).toNatClampNeg) 1) else none) else none) else (some ((.inl ((-1)), s2))))
theorem P84_23 {d ex : Nat} {s : g_S} {p1 : Int32} {p2 : Int32} {p3 : Int32} {p4 : Int32} {p5 : Int32} {y0 : Int32} {u6 : Option Value}   {z : ((Int32 ⊕ Nat) × g_S)} (H : f84_23 s p1 p2 p3 p4 p5 y0 = some z) (hd : 13 ≤ d)  : n_R X (d + 1) 84 23 [some (.ref 0), some (.int p1), some (.int p2), some (.int p3), some (.int p4), some (.int p5), u6] [.int y0] (g_M s ex) (g_rTI z ex) := by
  unfold f84_23 at H
  rcases g_tbp H with ⟨v1, s2, hv1, H⟩ | ⟨v1, s2, hv1, H⟩
  rotate_left
  · cases H
    refine n_callx (z := .inl none) (n_q md_84 rfl) (As := [.int y0]) (rest := []) rfl rfl (Nat.le_of_ble_eq_true rfl) rfl rfl (C116 (by omega) hv1) rfl
  refine n_call (n_q md_84 rfl) (As := [.int y0]) (rest := []) rfl rfl (Nat.le_of_ble_eq_true rfl) rfl rfl (C116 (by omega) hv1) ?_
  refine g_go 1 md_84 (i1 := 25) rfl ?_
  refine g_getr 22 (n_q md_84 rfl) t_0 rfl ?_
  refine g_getf (n_q md_84 rfl) t_22 rfl ?_
  refine g_go 1 md_84 (i1 := 28) rfl ?_
  by_cases h3 : (s2 22 1) < 13
  · rw [if_pos h3] at H
    refine n_cmpT (n_q md_84 rfl) (decide_eq_true h3) ?_
    refine g_go 2 md_84 (i1 := 33) rfl ?_
    refine g_getr 22 (n_q md_84 rfl) t_0 rfl ?_
    refine g_getr 23 (n_q md_84 rfl) t_22 rfl ?_
    refine g_go 1 md_84 (i1 := 36) rfl ?_
    refine g_getr 22 (n_q md_84 rfl) t_0 rfl ?_
    refine g_getf (n_q md_84 rfl) t_22 rfl ?_
    refine g_go 2 md_84 (i1 := 40) rfl ?_
    obtain ⟨h4, H⟩ := g_gd H
    refine g_aald (n_q md_84 rfl) ta_23 (by decide) h4 (g_range (g_inlt h4)) ?_
    refine g_getf (n_q md_84 rfl) (te_6 t_22 (g_inlt h4)) rfl ?_
    by_cases h5 : p2 < (s2 (28 + ((s2 22 1) - 1).toNatClampNeg) 1)
    · rw [if_pos h5] at H
      refine n_cmpF (n_q md_84 rfl) (fun e1 => absurd (of_decide_eq_true e1) (Int32.not_le.mpr h5)) ?_
      refine g_go 1 md_84 (i1 := 44) rfl ?_
      cases H
      exact n_iret (n_q md_84 rfl) (Or.inl rfl)
    · rw [if_neg h5] at H
      refine n_cmpT (n_q md_84 rfl) (decide_eq_true (Int32.not_lt.mp h5)) ?_
      refine g_go 1 md_84 (i1 := 46) rfl ?_
      refine g_getr 22 (n_q md_84 rfl) t_0 rfl ?_
      refine g_getr 23 (n_q md_84 rfl) t_22 rfl ?_
      refine g_go 1 md_84 (i1 := 49) rfl ?_
      refine g_getr 22 (n_q md_84 rfl) t_0 rfl ?_
      refine g_getf (n_q md_84 rfl) t_22 rfl ?_
      obtain ⟨h6, H⟩ := g_gd H
      refine g_aald (n_q md_84 rfl) ta_23 (by decide) h6 (g_range (g_inlt h6)) ?_
      refine g_go 2 md_84 (i1 := 54) (ls1 := [some (.ref 0), some (.int p1), some (.int p2), some (.int p3), some (.int p4), some (.int p5), some (.ref (28 + (s2 22 1).toNatClampNeg))]) rfl ?_
      obtain ⟨s8, hs8, H⟩ := g_bind H
      refine n_call (n_q md_84 rfl) (As := [.ref (28 + (s2 22 1).toNatClampNeg)]) (rest := []) rfl rfl (Nat.le_of_ble_eq_true rfl) rfl (g_recv (b := 0) rfl (te_6 t_22 (g_inlt h6)) rfl) (C23 (te_6 t_22 (g_inlt h6)) (by omega) hs8) ?_
      refine g_go 2 md_84 (i1 := 57) rfl ?_
      obtain ⟨s9, es9, H⟩ := g_letp H
      refine g_putf (n_q md_84 rfl) (te_6 t_22 (g_inlt h6)) rfl rfl es9 ?_
      refine g_go 2 md_84 (i1 := 60) rfl ?_
      obtain ⟨s10, es10, H⟩ := g_letp H
      refine g_putf (n_q md_84 rfl) (te_6 t_22 (g_inlt h6)) rfl rfl es10 ?_
      refine g_go 2 md_84 (i1 := 63) rfl ?_
      obtain ⟨s11, es11, H⟩ := g_letp H
      refine g_putf (n_q md_84 rfl) (te_6 t_22 (g_inlt h6)) rfl rfl es11 ?_
      refine g_go 2 md_84 (i1 := 66) rfl ?_
      obtain ⟨s12, es12, H⟩ := g_letp H
      refine g_putf (n_q md_84 rfl) (te_6 t_22 (g_inlt h6)) rfl rfl es12 ?_
      refine g_go 2 md_84 (i1 := 69) rfl ?_
      by_cases h13 : p5 = 0
      · rw [if_pos h13] at H
        refine n_ifT (n_q md_84 rfl) (decide_eq_true h13) ?_
        refine g_go 1 md_84 (i1 := 73) rfl ?_
        exact P84_73 (te_6 t_22 (g_inlt h6)) H hd
      · rw [if_neg h13] at H
        refine n_ifF (n_q md_84 rfl) (fun e1 => h13 (of_decide_eq_true e1)) ?_
        refine g_go 2 md_84 (i1 := 73) rfl ?_
        exact P84_73 (te_6 t_22 (g_inlt h6)) H hd
  · rw [if_neg h3] at H
    refine n_cmpF (n_q md_84 rfl) (fun e1 => h3 (of_decide_eq_true e1)) ?_
    refine g_go 1 md_84 (i1 := 30) rfl ?_
    cases H
    exact n_iret (n_q md_84 rfl) (Or.inl rfl)
noncomputable def f84_22 (s : g_S) (p1 : Int32) (p2 : Int32) (p3 : Int32) (p4 : Int32) (p5 : Int32) : Option ((Int32 ⊕ Nat) × g_S) := (f84_23 s p1 p2 p3 p4 p5 0)
theorem P84_22 {d ex : Nat} {s : g_S} {p1 : Int32} {p2 : Int32} {p3 : Int32} {p4 : Int32} {p5 : Int32} {u6 : Option Value}   {z : ((Int32 ⊕ Nat) × g_S)} (H : f84_22 s p1 p2 p3 p4 p5 = some z) (hd : 13 ≤ d)  : n_R X (d + 1) 84 22 [some (.ref 0), some (.int p1), some (.int p2), some (.int p3), some (.int p4), some (.int p5), u6] [] (g_M s ex) (g_rTI z ex) := by
  unfold f84_22 at H
  refine g_go 1 md_84 (i1 := 23) rfl ?_
  exact P84_23 H hd
noncomputable def f84_11 (s : g_S) (p1 : Int32) (p2 : Int32) (p3 : Int32) (p4 : Int32) (p5 : Int32) (y0 : Int32) : Option ((Int32 ⊕ Nat) × g_S) := (g_tb (f116 s y0) fun _ s2 => (f118 s2 p3 999).bind fun v3 => if v3 = 0 then (f84_22 s2 p1 p2 p3 p4 p5) else ((f118 s2 p4 3).bind fun v5 => if v5 = 0 then (f84_22 s2 p1 p2 p3 p4 p5) else (f84_23 s2 p1 p2 p3 p4 p5 1)))
theorem P84_11 {d ex : Nat} {s : g_S} {p1 : Int32} {p2 : Int32} {p3 : Int32} {p4 : Int32} {p5 : Int32} {y0 : Int32} {u6 : Option Value}   {z : ((Int32 ⊕ Nat) × g_S)} (H : f84_11 s p1 p2 p3 p4 p5 y0 = some z) (hd : 13 ≤ d)  : n_R X (d + 1) 84 11 [some (.ref 0), some (.int p1), some (.int p2), some (.int p3), some (.int p4), some (.int p5), u6] [.int y0] (g_M s ex) (g_rTI z ex) := by
  unfold f84_11 at H
  rcases g_tbp H with ⟨v1, s2, hv1, H⟩ | ⟨v1, s2, hv1, H⟩
  rotate_left
  · cases H
    refine n_callx (z := .inl none) (n_q md_84 rfl) (As := [.int y0]) (rest := []) rfl rfl (Nat.le_of_ble_eq_true rfl) rfl rfl (C116 (by omega) hv1) rfl
  refine n_call (n_q md_84 rfl) (As := [.int y0]) (rest := []) rfl rfl (Nat.le_of_ble_eq_true rfl) rfl rfl (C116 (by omega) hv1) ?_
  refine g_go 2 md_84 (i1 := 14) rfl ?_
  obtain ⟨v3, hv3, H⟩ := g_bind H
  refine n_callv (n_q md_84 rfl) (As := [.int p3, .int 999]) (rest := []) rfl rfl (Nat.le_of_ble_eq_true rfl) rfl rfl (C118 (by omega) hv3) ?_
  by_cases h4 : v3 = 0
  · rw [if_pos h4] at H
    refine n_ifT (n_q md_84 rfl) (decide_eq_true h4) ?_
    exact P84_22 H hd
  · rw [if_neg h4] at H
    refine n_ifF (n_q md_84 rfl) (fun e1 => h4 (of_decide_eq_true e1)) ?_
    refine g_go 2 md_84 (i1 := 18) rfl ?_
    obtain ⟨v5, hv5, H⟩ := g_bind H
    refine n_callv (n_q md_84 rfl) (As := [.int p4, .int 3]) (rest := []) rfl rfl (Nat.le_of_ble_eq_true rfl) rfl rfl (C118 (by omega) hv5) ?_
    by_cases h6 : v5 = 0
    · rw [if_pos h6] at H
      refine n_ifT (n_q md_84 rfl) (decide_eq_true h6) ?_
      exact P84_22 H hd
    · rw [if_neg h6] at H
      refine n_ifF (n_q md_84 rfl) (fun e1 => h6 (of_decide_eq_true e1)) ?_
      refine g_go 2 md_84 (i1 := 23) rfl ?_
      exact P84_23 H hd
noncomputable def f84_10 (s : g_S) (p1 : Int32) (p2 : Int32) (p3 : Int32) (p4 : Int32) (p5 : Int32) : Option ((Int32 ⊕ Nat) × g_S) := (f84_11 s p1 p2 p3 p4 p5 0)
theorem P84_10 {d ex : Nat} {s : g_S} {p1 : Int32} {p2 : Int32} {p3 : Int32} {p4 : Int32} {p5 : Int32} {u6 : Option Value}   {z : ((Int32 ⊕ Nat) × g_S)} (H : f84_10 s p1 p2 p3 p4 p5 = some z) (hd : 13 ≤ d)  : n_R X (d + 1) 84 10 [some (.ref 0), some (.int p1), some (.int p2), some (.int p3), some (.int p4), some (.int p5), u6] [] (g_M s ex) (g_rTI z ex) := by
  unfold f84_10 at H
  refine g_go 1 md_84 (i1 := 11) rfl ?_
  exact P84_11 H hd
noncomputable def f84 (s : g_S) (p1 : Int32) (p2 : Int32) (p3 : Int32) (p4 : Int32) (p5 : Int32) : Option ((Int32 ⊕ Nat) × g_S) := ((f118 s p1 5).bind fun v1 => if v1 = 0 then (f84_10 s p1 p2 p3 p4 p5) else ((f118 s p2 999).bind fun v3 => if v3 = 0 then (f84_10 s p1 p2 p3 p4 p5) else (f84_11 s p1 p2 p3 p4 p5 1)))
theorem C84 {d ex : Nat} {s : g_S} {p1 : Int32} {p2 : Int32} {p3 : Int32} {p4 : Int32} {p5 : Int32}  {z : (Int32 ⊕ Nat) × g_S} (hd : 13 < d) (H : f84 s p1 p2 p3 p4 p5 = some z) : n_C X d 84 [.ref 0, .int p1, .int p2, .int p3, .int p4, .int p5] (g_M s ex) (g_rTI z ex) := by
  obtain ⟨d, rfl⟩ : ∃ d1, d = d1 + 1 := ⟨d - 1, by omega⟩
  replace hd := Nat.le_of_lt_succ hd
  refine ⟨Nat.le_of_ble_eq_true rfl, ?_⟩
  rw [md_84]
  show n_R X (d + 1) 84 0 [some (.ref 0), some (.int p1), some (.int p2), some (.int p3), some (.int p4), some (.int p5), none] [] (g_M s ex) _
  unfold f84 at H
  refine g_go 2 md_84 (i1 := 2) rfl ?_
  obtain ⟨v1, hv1, H⟩ := g_bind H
  refine n_callv (n_q md_84 rfl) (As := [.int p1, .int 5]) (rest := []) rfl rfl (Nat.le_of_ble_eq_true rfl) rfl rfl (C118 (by omega) hv1) ?_
  by_cases h2 : v1 = 0
  · rw [if_pos h2] at H
    refine n_ifT (n_q md_84 rfl) (decide_eq_true h2) ?_
    exact P84_10 H hd
  · rw [if_neg h2] at H
    refine n_ifF (n_q md_84 rfl) (fun e1 => h2 (of_decide_eq_true e1)) ?_
    refine g_go 2 md_84 (i1 := 6) rfl ?_
    obtain ⟨v3, hv3, H⟩ := g_bind H
    refine n_callv (n_q md_84 rfl) (As := [.int p2, .int 999]) (rest := []) rfl rfl (Nat.le_of_ble_eq_true rfl) rfl rfl (C118 (by omega) hv3) ?_
    by_cases h4 : v3 = 0
    · rw [if_pos h4] at H
      refine n_ifT (n_q md_84 rfl) (decide_eq_true h4) ?_
      exact P84_10 H hd
    · rw [if_neg h4] at H
      refine n_ifF (n_q md_84 rfl) (fun e1 => h4 (of_decide_eq_true e1)) ?_
      refine g_go 2 md_84 (i1 := 11) rfl ?_
      exact P84_11 H hd

theorem md_117 : m_md 117 = m_X7_needHand := rfl
noncomputable def f117 (s : g_S) (p1 : Int32) : Option ((Unit ⊕ Nat) × g_S) := ((f118 s p1 ((s 22 1) - 1)).bind fun v1 => if v1 = 0 then (some (.inr 1, s)) else (some ((.inl (), s))))
theorem C117 {d ex : Nat} {s : g_S} {p1 : Int32}  {z : (Unit ⊕ Nat) × g_S} (hd : 13 < d) (H : f117 s p1 = some z) : n_C X d 117 [.ref 0, .int p1] (g_M s ex) (g_rTV z ex) := by
  obtain ⟨d, rfl⟩ : ∃ d1, d = d1 + 1 := ⟨d - 1, by omega⟩
  replace hd := Nat.le_of_lt_succ hd
  refine ⟨Nat.le_of_ble_eq_true rfl, ?_⟩
  rw [md_117]
  show n_R X (d + 1) 117 0 [some (.ref 0), some (.int p1)] [] (g_M s ex) _
  unfold f117 at H
  refine g_go 2 md_117 (i1 := 2) rfl ?_
  refine g_getr 22 (n_q md_117 rfl) t_0 rfl ?_
  refine g_getf (n_q md_117 rfl) t_22 rfl ?_
  refine g_go 2 md_117 (i1 := 6) rfl ?_
  obtain ⟨v1, hv1, H⟩ := g_bind H
  refine n_callv (n_q md_117 rfl) (As := [.int p1, .int ((s 22 1) - 1)]) (rest := []) rfl rfl (Nat.le_of_ble_eq_true rfl) rfl rfl (C118 (by omega) hv1) ?_
  by_cases h2 : v1 = 0
  · rw [if_pos h2] at H
    refine n_ifF (n_q md_117 rfl) (fun e1 => of_decide_eq_true e1 h2) ?_
    cases H
    exact g_throw (n_q md_117 rfl) (by omega) (Nat.le_of_ble_eq_true rfl)
  · rw [if_neg h2] at H
    refine n_ifT (n_q md_117 rfl) (decide_eq_true h2) ?_
    cases H
    exact n_end (n_q md_117 rfl) (fun _ => rfl)

theorem md_85 : m_md 85 = m_X7_hand := rfl
noncomputable def f85 (s : g_S) (p1 : Int32) (p2 : Int32) : Option ((Int32 ⊕ Nat) × g_S) := (g_tb (f117 s p1) fun _ s2 => (f118 s2 p2 5).bind fun v3 => g_tb (f116 s2 v3) fun _ s5 => if m_in p1 13 = true then (f25 s5 (28 + p1.toNatClampNeg) p2).bind fun v7 => some ((.inl v7, s5)) else none)
theorem C85 {d ex : Nat} {s : g_S} {p1 : Int32} {p2 : Int32}  {z : (Int32 ⊕ Nat) × g_S} (hd : 14 < d) (H : f85 s p1 p2 = some z) : n_C X d 85 [.ref 0, .int p1, .int p2] (g_M s ex) (g_rTI z ex) := by
  obtain ⟨d, rfl⟩ : ∃ d1, d = d1 + 1 := ⟨d - 1, by omega⟩
  replace hd := Nat.le_of_lt_succ hd
  refine ⟨Nat.le_of_ble_eq_true rfl, ?_⟩
  rw [md_85]
  show n_R X (d + 1) 85 0 [some (.ref 0), some (.int p1), some (.int p2)] [] (g_M s ex) _
  unfold f85 at H
  refine g_go 2 md_85 (i1 := 2) rfl ?_
  rcases g_tbp H with ⟨v1, s2, hv1, H⟩ | ⟨v1, s2, hv1, H⟩
  rotate_left
  · cases H
    refine n_callx (z := .inl none) (n_q md_85 rfl) (As := [.ref 0, .int p1]) (rest := []) rfl rfl (Nat.le_of_ble_eq_true rfl) rfl (g_recv (b := 0) rfl t_0 rfl) (C117 (by omega) hv1) rfl
  refine n_call (n_q md_85 rfl) (As := [.ref 0, .int p1]) (rest := []) rfl rfl (Nat.le_of_ble_eq_true rfl) rfl (g_recv (b := 0) rfl t_0 rfl) (C117 (by omega) hv1) ?_
  refine g_go 2 md_85 (i1 := 5) rfl ?_
  obtain ⟨v3, hv3, H⟩ := g_bind H
  refine n_callv (n_q md_85 rfl) (As := [.int p2, .int 5]) (rest := []) rfl rfl (Nat.le_of_ble_eq_true rfl) rfl rfl (C118 (by omega) hv3) ?_
  rcases g_tbp H with ⟨v4, s5, hv4, H⟩ | ⟨v4, s5, hv4, H⟩
  rotate_left
  · cases H
    refine n_callx (z := .inl none) (n_q md_85 rfl) (As := [.int v3]) (rest := []) rfl rfl (Nat.le_of_ble_eq_true rfl) rfl rfl (C116 (by omega) hv4) rfl
  refine n_call (n_q md_85 rfl) (As := [.int v3]) (rest := []) rfl rfl (Nat.le_of_ble_eq_true rfl) rfl rfl (C116 (by omega) hv4) ?_
  refine g_go 1 md_85 (i1 := 8) rfl ?_
  refine g_getr 22 (n_q md_85 rfl) t_0 rfl ?_
  refine g_getr 23 (n_q md_85 rfl) t_22 rfl ?_
  refine g_go 1 md_85 (i1 := 11) rfl ?_
  obtain ⟨h6, H⟩ := g_gd H
  refine g_aald (n_q md_85 rfl) ta_23 (by decide) h6 (g_range (g_inlt h6)) ?_
  refine g_go 1 md_85 (i1 := 13) rfl ?_
  obtain ⟨v7, hv7, H⟩ := g_bind H
  refine n_callv (n_q md_85 rfl) (As := [.ref (28 + p1.toNatClampNeg), .int p2]) (rest := []) rfl rfl (Nat.le_of_ble_eq_true rfl) rfl (g_recv (b := 0) rfl (te_6 t_22 (g_inlt h6)) rfl) (C25 (te_6 t_22 (g_inlt h6)) (by omega) hv7) ?_
  cases H
  exact n_iret (n_q md_85 rfl) (Or.inl rfl)

theorem md_86 : m_md 86 = m_X7_value := rfl
noncomputable def f86 (s : g_S) (p1 : Int32) : Option ((Int32 ⊕ Nat) × g_S) := ((f118 s p1 9999).bind fun v1 => g_tb (f116 s v1) fun _ s3 => g_let (g_w s3 22 2 p1) fun s4 => some ((.inl (s3 22 2), s4)))
theorem C86 {d ex : Nat} {s : g_S} {p1 : Int32}  {z : (Int32 ⊕ Nat) × g_S} (hd : 13 < d) (H : f86 s p1 = some z) : n_C X d 86 [.ref 0, .int p1] (g_M s ex) (g_rTI z ex) := by
  obtain ⟨d, rfl⟩ : ∃ d1, d = d1 + 1 := ⟨d - 1, by omega⟩
  replace hd := Nat.le_of_lt_succ hd
  refine ⟨Nat.le_of_ble_eq_true rfl, ?_⟩
  rw [md_86]
  show n_R X (d + 1) 86 0 [some (.ref 0), some (.int p1), none] [] (g_M s ex) _
  unfold f86 at H
  refine g_go 2 md_86 (i1 := 2) rfl ?_
  obtain ⟨v1, hv1, H⟩ := g_bind H
  refine n_callv (n_q md_86 rfl) (As := [.int p1, .int 9999]) (rest := []) rfl rfl (Nat.le_of_ble_eq_true rfl) rfl rfl (C118 (by omega) hv1) ?_
  rcases g_tbp H with ⟨v2, s3, hv2, H⟩ | ⟨v2, s3, hv2, H⟩
  rotate_left
  · cases H
    refine n_callx (z := .inl none) (n_q md_86 rfl) (As := [.int v1]) (rest := []) rfl rfl (Nat.le_of_ble_eq_true rfl) rfl rfl (C116 (by omega) hv2) rfl
  refine n_call (n_q md_86 rfl) (As := [.int v1]) (rest := []) rfl rfl (Nat.le_of_ble_eq_true rfl) rfl rfl (C116 (by omega) hv2) ?_
  refine g_go 1 md_86 (i1 := 5) rfl ?_
  refine g_getr 22 (n_q md_86 rfl) t_0 rfl ?_
  refine g_getf (n_q md_86 rfl) t_22 rfl ?_
  refine g_go 2 md_86 (i1 := 9) (ls1 := [some (.ref 0), some (.int p1), some (.int (s3 22 2))]) rfl ?_
  refine g_getr 22 (n_q md_86 rfl) t_0 rfl ?_
  refine g_go 1 md_86 (i1 := 11) rfl ?_
  obtain ⟨s4, es4, H⟩ := g_letp H
  refine g_putf (n_q md_86 rfl) t_22 rfl rfl es4 ?_
  refine g_go 1 md_86 (i1 := 13) rfl ?_
  cases H
  exact n_iret (n_q md_86 rfl) (Or.inl rfl)

theorem md_87 : m_md 87 = m_X7_purse := rfl
noncomputable def f87 (s : g_S) (p1 : Int32) (p2 : Int32) : Option ((Int32 ⊕ Nat) × g_S) := (g_tb (f117 s p1) fun _ s2 => (f118 s2 p2 9999).bind fun v3 => g_tb (f116 s2 v3) fun _ s5 => if m_in p1 13 = true then g_let (g_w s5 (28 + p1.toNatClampNeg) 5 p2) fun s7 => some ((.inl (s5 (28 + p1.toNatClampNeg) 5), s7)) else none)
theorem C87 {d ex : Nat} {s : g_S} {p1 : Int32} {p2 : Int32}  {z : (Int32 ⊕ Nat) × g_S} (hd : 14 < d) (H : f87 s p1 p2 = some z) : n_C X d 87 [.ref 0, .int p1, .int p2] (g_M s ex) (g_rTI z ex) := by
  obtain ⟨d, rfl⟩ : ∃ d1, d = d1 + 1 := ⟨d - 1, by omega⟩
  replace hd := Nat.le_of_lt_succ hd
  refine ⟨Nat.le_of_ble_eq_true rfl, ?_⟩
  rw [md_87]
  show n_R X (d + 1) 87 0 [some (.ref 0), some (.int p1), some (.int p2), none] [] (g_M s ex) _
  unfold f87 at H
  refine g_go 2 md_87 (i1 := 2) rfl ?_
  rcases g_tbp H with ⟨v1, s2, hv1, H⟩ | ⟨v1, s2, hv1, H⟩
  rotate_left
  · cases H
    refine n_callx (z := .inl none) (n_q md_87 rfl) (As := [.ref 0, .int p1]) (rest := []) rfl rfl (Nat.le_of_ble_eq_true rfl) rfl (g_recv (b := 0) rfl t_0 rfl) (C117 (by omega) hv1) rfl
  refine n_call (n_q md_87 rfl) (As := [.ref 0, .int p1]) (rest := []) rfl rfl (Nat.le_of_ble_eq_true rfl) rfl (g_recv (b := 0) rfl t_0 rfl) (C117 (by omega) hv1) ?_
  refine g_go 2 md_87 (i1 := 5) rfl ?_
  obtain ⟨v3, hv3, H⟩ := g_bind H
  refine n_callv (n_q md_87 rfl) (As := [.int p2, .int 9999]) (rest := []) rfl rfl (Nat.le_of_ble_eq_true rfl) rfl rfl (C118 (by omega) hv3) ?_
  rcases g_tbp H with ⟨v4, s5, hv4, H⟩ | ⟨v4, s5, hv4, H⟩
  rotate_left
  · cases H
    refine n_callx (z := .inl none) (n_q md_87 rfl) (As := [.int v3]) (rest := []) rfl rfl (Nat.le_of_ble_eq_true rfl) rfl rfl (C116 (by omega) hv4) rfl
  refine n_call (n_q md_87 rfl) (As := [.int v3]) (rest := []) rfl rfl (Nat.le_of_ble_eq_true rfl) rfl rfl (C116 (by omega) hv4) ?_
  refine g_go 1 md_87 (i1 := 8) rfl ?_
  refine g_getr 22 (n_q md_87 rfl) t_0 rfl ?_
  refine g_getr 23 (n_q md_87 rfl) t_22 rfl ?_
  refine g_go 1 md_87 (i1 := 11) rfl ?_
  obtain ⟨h6, H⟩ := g_gd H
  refine g_aald (n_q md_87 rfl) ta_23 (by decide) h6 (g_range (g_inlt h6)) ?_
  refine g_getf (n_q md_87 rfl) (te_6 t_22 (g_inlt h6)) rfl ?_
  refine g_go 2 md_87 (i1 := 15) (ls1 := [some (.ref 0), some (.int p1), some (.int p2), some (.int (s5 (28 + p1.toNatClampNeg) 5))]) rfl ?_
  refine g_getr 22 (n_q md_87 rfl) t_0 rfl ?_
  refine g_getr 23 (n_q md_87 rfl) t_22 rfl ?_
  refine g_go 1 md_87 (i1 := 18) rfl ?_
  refine g_aald (n_q md_87 rfl) ta_23 (by decide) h6 (g_range (g_inlt h6)) ?_
  refine g_go 1 md_87 (i1 := 20) rfl ?_
  obtain ⟨s7, es7, H⟩ := g_letp H
  refine g_putf (n_q md_87 rfl) (te_6 t_22 (g_inlt h6)) rfl rfl es7 ?_
  refine g_go 1 md_87 (i1 := 22) rfl ?_
  cases H
  exact n_iret (n_q md_87 rfl) (Or.inl rfl)

theorem md_88 : m_md 88 = m_X7_fact := rfl
noncomputable def f88 (s : g_S) (p1 : Int32) (p2 : Int32) (p3 : Int32) : Option ((Int32 ⊕ Nat) × g_S) := (g_tb (f117 s p1) fun _ s2 => (f118 s2 p2 3).bind fun v3 => g_tb (f116 s2 v3) fun _ s5 => if m_in p1 13 = true then (f26 s5 (28 + p1.toNatClampNeg) p2).bind fun v7 => (f27 s5 (28 + p1.toNatClampNeg) p2 p3).bind fun s9 => if m_isb v7 = true then some ((.inl v7, s9)) else none else none)
theorem C88 {d ex : Nat} {s : g_S} {p1 : Int32} {p2 : Int32} {p3 : Int32}  {z : (Int32 ⊕ Nat) × g_S} (hd : 14 < d) (H : f88 s p1 p2 p3 = some z) : n_C X d 88 [.ref 0, .int p1, .int p2, .int p3] (g_M s ex) (g_rTI z ex) := by
  obtain ⟨d, rfl⟩ : ∃ d1, d = d1 + 1 := ⟨d - 1, by omega⟩
  replace hd := Nat.le_of_lt_succ hd
  refine ⟨Nat.le_of_ble_eq_true rfl, ?_⟩
  rw [md_88]
  show n_R X (d + 1) 88 0 [some (.ref 0), some (.int p1), some (.int p2), some (.int p3), none] [] (g_M s ex) _
  unfold f88 at H
  refine g_go 2 md_88 (i1 := 2) rfl ?_
  rcases g_tbp H with ⟨v1, s2, hv1, H⟩ | ⟨v1, s2, hv1, H⟩
  rotate_left
  · cases H
    refine n_callx (z := .inl none) (n_q md_88 rfl) (As := [.ref 0, .int p1]) (rest := []) rfl rfl (Nat.le_of_ble_eq_true rfl) rfl (g_recv (b := 0) rfl t_0 rfl) (C117 (by omega) hv1) rfl
  refine n_call (n_q md_88 rfl) (As := [.ref 0, .int p1]) (rest := []) rfl rfl (Nat.le_of_ble_eq_true rfl) rfl (g_recv (b := 0) rfl t_0 rfl) (C117 (by omega) hv1) ?_
  refine g_go 2 md_88 (i1 := 5) rfl ?_
  obtain ⟨v3, hv3, H⟩ := g_bind H
  refine n_callv (n_q md_88 rfl) (As := [.int p2, .int 3]) (rest := []) rfl rfl (Nat.le_of_ble_eq_true rfl) rfl rfl (C118 (by omega) hv3) ?_
  rcases g_tbp H with ⟨v4, s5, hv4, H⟩ | ⟨v4, s5, hv4, H⟩
  rotate_left
  · cases H
    refine n_callx (z := .inl none) (n_q md_88 rfl) (As := [.int v3]) (rest := []) rfl rfl (Nat.le_of_ble_eq_true rfl) rfl rfl (C116 (by omega) hv4) rfl
  refine n_call (n_q md_88 rfl) (As := [.int v3]) (rest := []) rfl rfl (Nat.le_of_ble_eq_true rfl) rfl rfl (C116 (by omega) hv4) ?_
  refine g_go 1 md_88 (i1 := 8) rfl ?_
  refine g_getr 22 (n_q md_88 rfl) t_0 rfl ?_
  refine g_getr 23 (n_q md_88 rfl) t_22 rfl ?_
  refine g_go 1 md_88 (i1 := 11) rfl ?_
  obtain ⟨h6, H⟩ := g_gd H
  refine g_aald (n_q md_88 rfl) ta_23 (by decide) h6 (g_range (g_inlt h6)) ?_
  refine g_go 1 md_88 (i1 := 13) rfl ?_
  obtain ⟨v7, hv7, H⟩ := g_bind H
  refine n_callv (n_q md_88 rfl) (As := [.ref (28 + p1.toNatClampNeg), .int p2]) (rest := []) rfl rfl (Nat.le_of_ble_eq_true rfl) rfl (g_recv (b := 0) rfl (te_6 t_22 (g_inlt h6)) rfl) (C26 (te_6 t_22 (g_inlt h6)) (by omega) hv7) ?_
  refine g_go 2 md_88 (i1 := 16) (ls1 := [some (.ref 0), some (.int p1), some (.int p2), some (.int p3), some (.int v7)]) rfl ?_
  refine g_getr 22 (n_q md_88 rfl) t_0 rfl ?_
  refine g_getr 23 (n_q md_88 rfl) t_22 rfl ?_
  refine g_go 1 md_88 (i1 := 19) rfl ?_
  refine g_aald (n_q md_88 rfl) ta_23 (by decide) h6 (g_range (g_inlt h6)) ?_
  refine g_go 2 md_88 (i1 := 22) rfl ?_
  obtain ⟨s9, hs9, H⟩ := g_bind H
  refine n_call (n_q md_88 rfl) (As := [.ref (28 + p1.toNatClampNeg), .int p2, .int p3]) (rest := []) rfl rfl (Nat.le_of_ble_eq_true rfl) rfl (g_recv (b := 0) rfl (te_6 t_22 (g_inlt h6)) rfl) (C27 (te_6 t_22 (g_inlt h6)) (by omega) hs9) ?_
  refine g_go 1 md_88 (i1 := 24) rfl ?_
  obtain ⟨hb10, H⟩ := g_gd H
  cases H
  exact n_iret (n_q md_88 rfl) (Or.inr hb10)

end K3
