/-! title, found -/
abbrev w_o_cd (V : w_k_V) (L : w_q_L) (w k : Nat) : Prop := w_o_whom1 V k = nI w ∧ 0 < w_o_claim1 V L k ∧ ¬ w_o_claim1 V L k < V 1 ∧ (w_o_PO V L).1 k = w_o_claim1 V L k
def w_o_tu (V : w_k_V) (L : w_q_L) : Nat → Nat
  | 0 => 0
  | k + 1 => if w_o_cd V L (w_o_tu V L k) (k + 1) then k + 1 else w_o_tu V L k
def w_o_title (V : w_k_V) (L : w_q_L) : Int32 := if V 2 = -1 then 0 else nI (w_o_tu V L (w_o_hol V))
theorem w_o_tu_le (V : w_k_V) (L : w_q_L) : ∀ k, w_o_tu V L k ≤ k
  | 0 => Nat.le_refl _
  | k + 1 => by
    unfold w_o_tu; split
    · exact Nat.le_refl _
    · have := w_o_tu_le V L k; omega
section TI
variable {u : g_S} {V : w_k_V} {L : w_q_L} {n : Nat}
theorem w_e15_4 (hV : w_k_Vok n V) (h : w_o_CE u V L) (hon : V 2 ≠ -1) : ∀ d k, k + d = w_o_hol V → f15_4L u (V 1) (nI (w_o_tu V L k)) (nI (k + 1)) = some (nI (w_o_tu V L (w_o_hol V)))
  | 0, k, e => by
    have hh := w_o_hol_lt hV
    have e' : k = w_o_hol V := by omega
    subst e'
    rw [f15_4L_eq]; unfold f15_4
    rw [h.1, w_k_hold_on hon, if_pos ((w_k_lt (by omega) (by omega)).2 (by omega))]; rfl
  | d + 1, k, e => by
    have hh := w_o_hol_lt hV
    have hin : V 2 ≠ -1 ∧ 1 ≤ k + 1 ∧ k + 1 ≤ w_o_hol V := ⟨hon, by omega, by omega⟩
    have hc : u 78 (k + 1) = w_o_claim1 V L (k + 1) := by rw [(h.2 (k + 1) (by omega)).1]; unfold w_o_claim; rw [if_pos hin]
    have hw : u 79 (k + 1) = w_o_whom1 V (k + 1) := by rw [(h.2 (k + 1) (by omega)).2.1]; unfold w_o_whom; rw [if_pos hin]
    have hp : u 80 (k + 1) = (w_o_PO V L).1 (k + 1) := by rw [(h.2 (k + 1) (by omega)).2.2.1]; unfold w_o_pays; rw [if_neg hon]
    have et : w_o_tu V L (k + 1) = if w_o_cd V L (w_o_tu V L k) (k + 1) then k + 1 else w_o_tu V L k := rfl
    have ih := w_e15_4 hV h hon d (k + 1) (by omega)
    have hle := w_o_tu_le V L k
    rw [f15_4L_eq]; unfold f15_4 f15_30
    rw [h.1, w_k_hold_on hon, if_neg (w_k_nlt (by omega) (by omega) (by omega)), if_pos (w_k_hin (by omega)), w_k_nat (by omega), hc, hp]
    have no : ∀ (c : ¬ w_o_cd V L (w_o_tu V L k) (k + 1)), g_st (some (Sum.inl (nI (w_o_tu V L k), nI (k + 1) + 1))) (fun S => f15_4L u (V 1) S.1 S.2) = some (nI (w_o_tu V L (w_o_hol V))) := by
      intro c
      rw [if_neg c] at et
      rw [et] at ih
      rw [w_k_s1]; exact ih
    by_cases h1 : 0 < w_o_claim1 V L (k + 1)
    · rw [if_pos h1]
      by_cases h2 : w_o_claim1 V L (k + 1) < V 1
      · rw [if_pos h2]
        unfold f15_31
        rw [if_pos rfl]
        exact no (fun c => c.2.2.1 h2)
      · rw [if_neg h2]
        by_cases h3 : (w_o_PO V L).1 (k + 1) = w_o_claim1 V L (k + 1)
        · rw [if_pos h3]
          unfold f15_31
          rw [if_neg w_k_01, if_pos (w_k_hin (by omega)), w_k_nat (by omega), hw]
          by_cases h4 : w_o_whom1 V (k + 1) = nI (w_o_tu V L k)
          · rw [if_pos h4]
            rw [if_pos ⟨h4, h1, h2, h3⟩] at et
            rw [et] at ih
            rw [w_k_s1]; exact ih
          · rw [if_neg h4]
            exact no (fun c => h4 c.1)
        · rw [if_neg h3]
          unfold f15_31
          rw [if_pos rfl]
          exact no (fun c => h3 c.2.2.2)
    · rw [if_neg h1]
      unfold f15_31
      rw [if_pos rfl]
      exact no (fun c => h1 c.2.1)
theorem w_e15 (hV : w_k_Vok n V) (h : w_o_CE u V L) : f15 u (V 1) = some (w_o_title V L) := by
  unfold f15 w_o_title
  by_cases hon : V 2 = -1
  · rw [if_pos hon, f15_4L_eq]; unfold f15_4
    rw [h.1, w_k_hold_off hon, if_pos (by decide)]; rfl
  · rw [if_neg hon]
    exact w_e15_4 hV h hon (w_o_hol V) 0 (by omega)
def w_o_nx (V : w_k_V) (L : w_q_L) (w : Nat) : Nat → Int32 → Int32
  | 0, a => a
  | k + 1, a => w_o_nx V L w k (if w_o_cd V L w (k + 1) then nI (k + 1) else a)
theorem w_o_nx_is (V : w_k_V) (L : w_q_L) (w : Nat) : ∀ k a, (∃ c, 1 ≤ c ∧ c ≤ k ∧ w_o_cd V L w c ∧ (∀ j, 1 ≤ j → j < c → ¬ w_o_cd V L w j) ∧ w_o_nx V L w k a = nI c) ∨ ((∀ j, 1 ≤ j → j ≤ k → ¬ w_o_cd V L w j) ∧ w_o_nx V L w k a = a)
  | 0, a => Or.inr ⟨fun j h1 h2 => absurd h1 (by omega), rfl⟩
  | k + 1, a => by
    unfold w_o_nx
    rcases w_o_nx_is V L w k (if w_o_cd V L w (k + 1) then nI (k + 1) else a) with ⟨c, h1, h2, h3, h4, h5⟩ | ⟨h1, h2⟩
    · exact Or.inl ⟨c, h1, by omega, h3, h4, h5⟩
    · by_cases hc : w_o_cd V L w (k + 1)
      · refine Or.inl ⟨k + 1, by omega, Nat.le_refl _, hc, fun j g1 g2 => h1 j g1 (by omega), ?_⟩
        rw [h2, if_pos hc]
      · refine Or.inr ⟨fun j g1 g2 => ?_, by rw [h2, if_neg hc]⟩
        by_cases e : j = k + 1
        · subst e; exact hc
        · exact h1 j g1 (by omega)
theorem w_e207_16 (hV : w_k_Vok n V) (hM : w_k_MV u V) (h : w_o_ME u V L) (hon : V 2 ≠ -1) {w : Nat} : ∀ k a, k ≤ w_o_hol V → f207_16L u (nI w) a (nI k) = f207_49 u (nI w) (w_o_nx V L w k a)
  | 0, a, hk => by
    rw [f207_16L_eq]; unfold f207_16
    rw [if_neg (by decide)]
    show g_st (Option.map _ (f207_49 u (nI w) a)) _ = f207_49 u (nI w) a
    cases f207_49 u (nI w) a <;> rfl
  | k + 1, a, hk => by
    have hh := w_o_hol_lt hV
    have hin : V 2 ≠ -1 ∧ 1 ≤ k + 1 ∧ k + 1 ≤ w_o_hol V := ⟨hon, by omega, by omega⟩
    obtain ⟨a1, a2, a3, _⟩ := h.2.1 (k + 1) (by omega)
    have hc : u 238 (k + 1) = w_o_claim1 V L (k + 1) := by rw [a1]; unfold w_o_claim; rw [if_pos hin]
    have hw : u 239 (k + 1) = w_o_whom1 V (k + 1) := by rw [a2]; unfold w_o_whom; rw [if_pos hin]
    have hp : u 240 (k + 1) = (w_o_PO V L).1 (k + 1) := by rw [a3]; unfold w_o_pays; rw [if_neg hon]
    have ih := fun b => w_e207_16 hV hM h hon (w := w) k b (by omega)
    rw [f207_16L_eq]; unfold f207_16
    rw [if_pos (show (0 : Int32) < nI (k + 1) from (w_k_lt (a := 0) (by omega) (by omega)).2 (by omega)), if_pos (w_k_hin (by omega)), w_k_nat (by omega), hc, hw, hp, hM.1.2.1, w_k_p1]
    have en : w_o_nx V L w (k + 1) a = w_o_nx V L w k (if w_o_cd V L w (k + 1) then nI (k + 1) else a) := rfl
    rw [en]
    by_cases h4 : w_o_whom1 V (k + 1) = nI w
    · rw [if_pos h4]
      by_cases h1 : 0 < w_o_claim1 V L (k + 1)
      · rw [if_pos h1]
        by_cases h2 : w_o_claim1 V L (k + 1) < V 1
        · rw [if_pos h2, if_neg (fun c : w_o_cd V L w (k + 1) => c.2.2.1 h2)]; exact ih a
        · rw [if_neg h2]
          by_cases h3 : (w_o_PO V L).1 (k + 1) = w_o_claim1 V L (k + 1)
          · rw [if_pos h3, if_pos (show w_o_cd V L w (k + 1) from ⟨h4, h1, h2, h3⟩)]; exact ih _
          · rw [if_neg h3, if_neg (fun c : w_o_cd V L w (k + 1) => h3 c.2.2.2)]; exact ih a
      · rw [if_neg h1, if_neg (fun c : w_o_cd V L w (k + 1) => h1 c.2.1)]; exact ih a
    · rw [if_neg h4, if_neg (fun c : w_o_cd V L w (k + 1) => h4 c.1)]; exact ih a
theorem w_o_tu_up {w : Nat} (hw : w_o_tu V L w = w) : ∀ d, (∀ j, w < j → j ≤ w + d → ¬ w_o_cd V L w j) → w_o_tu V L (w + d) = w
  | 0, _ => hw
  | d + 1, h => by
    have ih := w_o_tu_up hw d (fun j h1 h2 => h j h1 (by omega))
    show (if w_o_cd V L (w_o_tu V L (w + d)) (w + d + 1) then w + d + 1 else w_o_tu V L (w + d)) = w
    rw [ih, if_neg (h _ (by omega) (by omega))]
theorem w_e207_8 (hV : w_k_Vok n V) (hM : w_k_MV u V) (h : w_o_ME u V L) (hon : V 2 ≠ -1) : ∀ (m w : Nat) (x2 : Int32), w_o_hol V - w < m → w ≤ w_o_hol V → w_o_tu V L w = w → x2 ≠ -1 → f207_8L u (nI w) x2 = some (nI (w_o_tu V L (w_o_hol V)), u)
  | 0, w, x2, hm, _, _, _ => absurd hm (by omega)
  | m + 1, w, x2, hm, hw, ht, hx => by
    have hh := w_o_hol_lt hV
    rw [f207_8L_eq]; unfold f207_8
    rw [if_neg hx, h.1, w_k_hold_on hon, w_e207_16 hV hM h hon (w_o_hol V) (-1) (Nat.le_refl _)]
    unfold f207_49
    rcases w_o_nx_is V L w (w_o_hol V) (-1) with ⟨c, h1, h2, h3, h4, h5⟩ | ⟨h1, h2⟩
    · rw [h5, if_neg (w_k_ne1 (by omega))]
      obtain ⟨j, hj, ej⟩ := w_o_whom_n (V := V) (k := c) h1
      have hwc : w < c := by
        have := h3.1
        rw [ej] at this
        have := (w_k_eq (by omega) (by omega)).1 this
        omega
      have htc : w_o_tu V L c = c := by
        obtain ⟨d, rfl⟩ : ∃ d, c = w + d + 1 := ⟨c - w - 1, by omega⟩
        have hb := w_o_tu_up ht d (fun j g1 g2 => h4 j (by omega) (by omega))
        show (if w_o_cd V L (w_o_tu V L (w + d)) (w + d + 1) then w + d + 1 else w_o_tu V L (w + d)) = w + d + 1
        rw [hb, if_pos h3]
      exact w_e207_8 hV hM h hon m c (nI c) (by omega) h2 htc (w_k_ne1 (by omega))
    · rw [h2, if_pos rfl]
      have hend : w_o_tu V L (w_o_hol V) = w := by
        obtain ⟨d, hd⟩ : ∃ d, w_o_hol V = w + d := ⟨w_o_hol V - w, by omega⟩
        rw [hd]
        exact w_o_tu_up ht d (fun j g1 g2 => h1 j (by omega) (by omega))
      rw [hend]
      show f207_8L u (nI w) (-1) = _
      rw [f207_8L_eq]; unfold f207_8
      rw [if_pos rfl]; rfl
end TI
theorem w_e207 {TR : w_k_TR} {s : g_S} {A : w_k_A} (hT : w_k_HH TR) (hA : w_k_Aok A) (H : w_k_MI TR s A) : ∃ u, f207 (g_w s 199 0 0) = some (w_o_title A.2.2.2.1 (w_a_inf A), u) ∧ w_o_ME u A.2.2.2.1 (w_a_inf A) ∧ w_k_eM s u ∧ u 199 0 = 0 ∧ w_k_MV u A.2.2.2.1 := by
  have hV := hA.2.2.2.1
  obtain ⟨u, h1, h2, h3, h4, h5⟩ := w_m_end hT hA H
  unfold f207
  rw [h1, w_k_bs]
  refine ⟨u, ?_, h2, h3, h4, h5⟩
  unfold w_o_title
  by_cases hon : A.2.2.2.1 2 = -1
  · rw [if_pos hon, f207_8L_eq]; unfold f207_8
    rw [if_neg (by decide), h2.1, w_k_hold_off hon, f207_16L_eq]; unfold f207_16 f207_49
    rw [if_neg (by decide), if_pos rfl]
    show f207_8L u 0 (-1) = _
    rw [f207_8L_eq]; unfold f207_8
    rw [if_pos rfl]; rfl
  · rw [if_neg hon]
    exact w_e207_8 hV h5 h2 hon (w_o_hol A.2.2.2.1 + 1) 0 0 (by omega) (by omega) rfl (by decide)
def w_a_title (A : w_k_A) : Int32 := w_o_title A.2.2.2.1 (w_a_inf A)
theorem w_c_title {s : g_S} {A : w_k_A} (hA : w_k_Aok A) (H : w_k_CI s A) : w_k_cov s (f105 s) (w_a_title A) A := by
  obtain ⟨l, u, h1, h2, h3, h4, h5, h6⟩ := w_c_end hA H
  unfold f105
  rw [h1, w_k_bs, if_pos h2, h3, w_k_bs, h5.2.2.2.2.1.1.2.1, w_e15 hA.2.2.2.1 h4]
  exact w_ok_some ⟨rfl, h5, h6⟩
theorem w_m_title {TR : w_k_TR} {s : g_S} {A : w_k_A} (hT : w_k_HH TR) (hA : w_k_Aok A) (H : w_k_MI TR s A) : w_k_mov TR s (f208 s) (w_a_title A) A := by
  obtain ⟨u, h1, h2, h3, h4, h5⟩ := w_e207 hT hA H
  unfold f208
  rw [w_k_let, h1, w_k_bd]
  exact w_m_scr hA H h3
def w_a_found (A : w_k_A) (p w : Int32) : Int32 ⊕ Nat := w_a_two' A p (w_k_wi w 0 9999) (if w_o_title A.2.2.2.1 (w_a_inf A) = p then (if (w_o_must A.2.2.2.1 (w_a_inf A) p.toNatClampNeg && w_q_twice (w_a_inf A) (A.2.2.2.1 (10 + 12 * p.toNatClampNeg))) = true then 2 * w else w) else 0)
theorem w_c_found {s : g_S} {A : w_k_A} {p w : Int32} (hA : w_k_Aok A) (H : w_k_CI s A) : w_k_cop s (f106 s p w) (w_a_found A p w) A := by
  refine w_c_two' hA H (y := fun s5 => (f120 s5).bind fun v6 => if g_lay v6 = o_4 v6 then (f10 s5 22 v6).bind fun s9 => (f15 s9 (s9 22 2)).bind fun v10 => if v10 = p then (if m_in p 13 = true then if (s9 82 p.toNatClampNeg) = 0 then (f106_42 s9 p w) else ((f120 s9).bind fun v14 => if g_lay v14 = o_4 v14 then (f38 s9 v14 (s9 (28 + p.toNatClampNeg) 0)).bind fun v16 => if v16 = 0 then (f106_42 s9 p w) else (f106_43 s9 p w 1) else none) else none) else (some ((.inl 0, s9))) else none) (by unfold f106; rfl) (fun k hk hk3 e h => ?_)
  subst e
  obtain ⟨l, u, h1, h2, h3, h4, h5, h6⟩ := w_c_end hA H
  have hV := hA.2.2.2.1
  have hh := w_o_hol_lt hV
  rw [h1, w_k_bs, if_pos h2, h3, w_k_bs, h5.2.2.2.2.1.1.2.1, w_e15 hV h4, w_k_bs, w_k_nat (by omega)]
  by_cases ht : w_o_title A.2.2.2.1 (w_a_inf A) = nI k
  · rw [if_pos ht, if_pos ht, if_pos (w_k_hin hk3), (h4.2 k hk3).2.2.2.2]
    unfold f106_42 f106_43
    cases hm : w_o_must A.2.2.2.1 (w_a_inf A) k with
    | false =>
      rw [if_pos (show w_q_b false = 0 from rfl), if_pos rfl]
      exact w_ok_some ⟨rfl, h5, h6⟩
    | true =>
      have hin : A.2.2.2.1 2 ≠ -1 ∧ 1 ≤ k ∧ k ≤ w_o_hol A.2.2.2.1 := by
        by_cases hin : A.2.2.2.1 2 ≠ -1 ∧ 1 ≤ k ∧ k ≤ w_o_hol A.2.2.2.1
        · exact hin
        · unfold w_o_must at hm; rw [if_neg hin] at hm; cases hm
      obtain ⟨l2, g1, g2, g3, g4, g5, g6⟩ := w_c_inf hA h5
      have hx0 : u (28 + k) 0 = A.2.2.2.1 (10 + 12 * k) := by
        have := (h5.2.2.2.2.1.2.1 k hk).1 0 (by omega)
        rw [if_neg (by omega)] at this
        exact this
      rw [if_neg (by decide), g1, w_k_bs, if_pos g2, hx0, w_e38 g3, w_k_bs]
      cases ht : w_q_twice (w_a_inf A) (A.2.2.2.1 (10 + 12 * k)) with
      | false =>
        rw [if_pos (show w_q_b false = 0 from rfl), if_pos rfl]
        exact w_ok_some ⟨rfl, h5, h6⟩
      | true =>
        rw [if_neg (by decide), if_neg w_k_01]
        exact w_ok_some ⟨rfl, h5, h6⟩
  · rw [if_neg ht, if_neg ht]
    exact w_ok_some ⟨rfl, h5, h6⟩
theorem w_m_found {TR : w_k_TR} {s : g_S} {A : w_k_A} {p w : Int32} (hT : w_k_HH TR) (hA : w_k_Aok A) (H : w_k_MI TR s A) : w_k_mop TR w_k_cB s (f209 s p w) (w_a_found A p w) A := by
  refine w_m_two' hA H (y := f209_23 (g_w s 199 0 0) p w 0) (z := f209_23 (g_w s 199 0 0) p w 1) ?_ ?_ (fun k hk hk3 e h => ?_)
  · unfold f209; rw [w_k_let, w_e173, w_k_mh H, w_k_bs]
    unfold f209_11
    simp only [w_e135]
    exact w_k_g2 (K := fun u t => f209_23 t p w u) w_k_00
  · unfold f209_23; rw [w_e134b w_k_00 w_k_02]; rfl
  subst e
  obtain ⟨u, h1, h2, h3, h4, h5⟩ := w_e207 hT hA H
  have hV := hA.2.2.2.1
  have hh := w_o_hol_lt hV
  obtain ⟨_, _, _, _, ho, htw⟩ := h2.2.1 k hk3
  have x3 : u (225 + k) 3 = A.2.2.2.1 (20 + 12 * k) := (h5.2.2.2.1 k 3 hk3 (by omega)).trans (congrArg A.2.2.2.1 (by omega))
  unfold f209_23
  rw [w_e134o w_k_00, w_k_bd, if_pos rfl, h1, w_k_bd, w_k_nat (by omega)]
  by_cases ht : w_o_title A.2.2.2.1 (w_a_inf A) = nI k
  · rw [if_pos ht, if_pos ht]
    by_cases h0 : k = 0
    · subst h0
      rw [if_neg (by decide)]
      have hm : w_o_must A.2.2.2.1 (w_a_inf A) 0 = false := by unfold w_o_must; rw [if_neg (by omega)]
      rw [hm]
      exact w_m_scr2 hA H h3 h4
    · rw [if_pos (show (0 : Int32) < nI k from (w_k_lt (a := 0) (by omega) (by omega)).2 (by omega)), if_pos (w_k_hin hk3), htw, ho, x3]
      have hmi := w_o_must_is (V := A.2.2.2.1) (L := w_a_inf A) (k := k)
      by_cases hin : A.2.2.2.1 2 ≠ -1 ∧ 1 ≤ k ∧ k ≤ w_o_hol A.2.2.2.1
      · have et : w_o_twice A.2.2.2.1 (w_a_inf A) k = w_q_twice (w_a_inf A) (A.2.2.2.1 (10 + 12 * k)) := by unfold w_o_twice; rw [if_pos hin]
        rw [et, hmi]
        cases w_q_twice (w_a_inf A) (A.2.2.2.1 (10 + 12 * k)) with
        | false => rw [if_pos (show w_q_b false = 0 from rfl), Bool.and_false]; exact w_m_scr2 hA H h3 h4
        | true =>
          rw [if_neg (by decide)]
          cases w_o_oath A.2.2.2.1 (w_a_inf A) k with
          | false => rw [if_pos (show w_q_b false = 0 from rfl)]; exact w_m_scr2 hA H h3 h4
          | true =>
            rw [if_neg (by decide)]
            by_cases g0 : A.2.2.2.1 (20 + 12 * k) = 0
            · rw [if_pos g0, decide_eq_true g0]; exact w_m_scr2 hA H h3 h4
            · rw [if_neg g0, decide_eq_false g0]; exact w_m_scr2 hA H h3 h4
      · have et : w_o_twice A.2.2.2.1 (w_a_inf A) k = false := by unfold w_o_twice; rw [if_neg hin]
        have hm : w_o_must A.2.2.2.1 (w_a_inf A) k = false := by unfold w_o_must; rw [if_neg hin]
        rw [et, hm, if_pos (show w_q_b false = 0 from rfl)]
        exact w_m_scr2 hA H h3 h4
  · rw [if_neg ht, if_neg ht]
    exact w_m_scr2 hA H h3 h4
