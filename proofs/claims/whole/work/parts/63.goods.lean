/-! put, and the sum of the goods -/
def w_k_put (V : w_k_V) (n : Nat) (o m : Int32) : w_k_V := fun j => if j = 6 then V 6 + 1 else if j = 7 then V 7 + m else if j = 200 + 2 * n then o else if j = 201 + 2 * n then m else V j
theorem w_k_putn {V : w_k_V} {n j : Nat} {o m : Int32} (h0 : j ≠ 6) (h1 : j ≠ 7) (h2 : j < 200 + 2 * n ∨ 202 + 2 * n ≤ j) : w_k_put V n o m j = V j := by
  unfold w_k_put; rw [if_neg h0, if_neg h1, if_neg (by omega), if_neg (by omega)]
theorem w_k_puto {V : w_k_V} {n j : Nat} {o m : Int32} (e : j = 200 + 2 * n) : w_k_put V n o m j = o := by
  unfold w_k_put; rw [if_neg (by omega), if_neg (by omega), if_pos e]
theorem w_k_putm {V : w_k_V} {n j : Nat} {o m : Int32} (e : j = 201 + 2 * n) : w_k_put V n o m j = m := by
  unfold w_k_put; rw [if_neg (by omega), if_neg (by omega), if_neg (by omega), if_pos e]
theorem w_k_put6 {V : w_k_V} {n : Nat} {o m : Int32} : w_k_put V n o m 6 = V 6 + 1 := rfl
theorem w_k_put7 {V : w_k_V} {n : Nat} {o m : Int32} : w_k_put V n o m 7 = V 7 + m := rfl
def w_a_put (V : w_k_V) (o m : Int32) : (Int32 ⊕ Nat) × w_k_V :=
  if w_k_wi o 0 5 ∧ w_k_wi m 0 999 then (if w_k_pc V = 20 then (.inl (-1), V) else (.inl (V 7 + m), w_k_put V (w_k_pc V) o m)) else (.inr 0, V)
theorem w_k_putp {n : Nat} {V : w_k_V} {o m : Int32} (H : w_k_Vok n V) : w_k_pc (w_k_put V (w_k_pc V) o m) = w_k_pc V + 1 := by
  have hb := w_k_Vb H
  unfold w_k_pc; rw [w_k_put6, w_k_pcI H, w_k_s1, w_k_nat (by omega), w_k_nat (by omega)]
theorem w_v_put {n : Nat} {V : w_k_V} {o m : Int32} (H : w_k_Vok n V) : w_k_Vok n (w_a_put V o m).2 := by
  unfold w_a_put
  by_cases hg : w_k_wi o 0 5 ∧ w_k_wi m 0 999
  · rw [if_pos hg]
    by_cases h8 : w_k_pc V = 20
    · rw [if_pos h8]; exact H
    · rw [if_neg h8]
      have hb := w_k_Vb H
      have hc := w_k_pcI H
      have e6 := w_k_putp (o := o) (m := m) H
      obtain ⟨a1, a2, a3, a4, a5, a6, a7, a8, a9, b1, b2, b3, b4⟩ := H
      dsimp only
      have e0 : w_k_hc (w_k_put V (w_k_pc V) o m) = w_k_hc V := congrArg Int32.toNatClampNeg (w_k_putn (by omega) (by omega) (by omega))
      have w_e5 : w_k_qc (w_k_put V (w_k_pc V) o m) = w_k_qc V := congrArg Int32.toNatClampNeg (w_k_putn (by omega) (by omega) (by omega))
      unfold w_k_Vok
      rw [e0, w_e5, e6, w_k_put6, w_k_put7, w_k_putn (j := 0) (by omega) (by omega) (by omega), w_k_putn (j := 5) (by omega) (by omega) (by omega), w_k_putn (j := 2) (by omega) (by omega) (by omega), w_k_putn (j := 3) (by omega) (by omega) (by omega), w_k_putn (j := 4) (by omega) (by omega) (by omega), w_k_putn (j := 1) (by omega) (by omega) (by omega)]
      refine ⟨a1, a2, ⟨?_, by omega⟩, a4, a5, a6, ?_, fun h h1 h2 => ?_, fun h f h1 h2 => ?_, fun r hq => ?_, fun p hp => ?_, b3, fun h h2 => ?_⟩
      · rw [hc, w_k_s1]
      · show V 7 + m = w_k_sum _ (w_k_pc V) + w_k_put V (w_k_pc V) o m (201 + 2 * w_k_pc V)
        rw [w_k_sum_cg (V := V) _ (fun q _ => w_k_putn (by omega) (by omega) (by omega)), w_k_putm rfl, a7]
      · rw [w_k_putn (by omega) (by omega) (by omega), w_k_putn (by omega) (by omega) (by omega), w_k_putn (by omega) (by omega) (by omega)]
        exact a8 h h1 h2
      · rw [w_k_putn (by omega) (by omega) (by omega)]
        exact a9 h f h1 h2
      · rw [w_k_putn (by omega) (by omega) (by omega), w_k_putn (by omega) (by omega) (by omega), w_k_putn (by omega) (by omega) (by omega)]
        exact b1 r hq
      · by_cases e : p = w_k_pc V
        · subst e; rw [w_k_putm rfl]; exact hg.2
        · rw [w_k_putn (by omega) (by omega) (by omega)]; exact b2 p (by omega)
      · rw [w_k_putn (by omega) (by omega) (by omega)]; exact b4 h h2
  · rw [if_neg hg]; exact H
theorem w_e19_4 {s : g_S} {c : Nat} {V : w_k_V} (H : w_k_CV s c V) (h6 : V 6 = nI (w_k_pc V)) (hp : w_k_pc V ≤ 20) : ∀ d t, t + d = w_k_pc V → f19_4L s (c + 3) (w_k_sum V t) (nI t) = some (w_k_sum V (w_k_pc V))
  | 0, t, e => by
    have e' : t = w_k_pc V := by omega
    subst e'
    rw [f19_4L_eq]; unfold f19_4
    rw [H.1.2.2.2.2.2.2, if_neg (by rw [h6]; exact w_k_nlt (by omega) (by omega) (by omega))]
    rfl
  | d + 1, t, e => by
    rw [f19_4L_eq]; unfold f19_4
    rw [H.1.2.2.2.2.2.2, if_pos (by rw [h6]; exact (w_k_lt (by omega) (by omega)).2 (by omega)), if_pos ((w_k_inI (by omega)).2 (by omega)), w_k_nat (by omega), w_k_s1]
    show f19_4L s (c + 3) (w_k_sum V t + s (c + 5) t) (nI (t + 1)) = _
    rw [(H.2.2.2 t (by omega)).2]
    exact w_e19_4 H h6 hp d (t + 1) (by omega)
theorem w_e19 {s : g_S} {c n : Nat} {V : w_k_V} (hV : w_k_Vok n V) (H : w_k_CV s c V) : f19 s (c + 3) = some (V 7) := by
  unfold f19
  rw [hV.2.2.2.2.2.2.1]
  exact w_e19_4 H (w_k_pcI hV) (w_k_Vb hV).2.2 (w_k_pc V) 0 (by omega)
theorem w_c_put {s : g_S} {A : w_k_A} {o m : Int32} (hA : w_k_Aok A) (H : w_k_CI s A) : w_k_cop s (f107 s o m) (w_a_put A.2.2.2.1 o m).1 (w_k_sV A (w_a_put A.2.2.2.1 o m).2) := by
  have hV := hA.2.2.2.1
  have hb := w_k_Vb hV
  have hv := H.2.2.2.2.1
  have hW := w_v_put (o := o) (m := m) hV
  have bad : ¬ (w_k_wi o 0 5 ∧ w_k_wi m 0 999) → w_k_cop s (f107_10 s o m) (w_a_put A.2.2.2.1 o m).1 (w_k_sV A (w_a_put A.2.2.2.1 o m).2) := by
    intro h
    unfold f107_10 f107_11 w_a_put
    rw [if_neg h, w_e116f]
    exact w_ok_some ⟨rfl, H, fun _ _ => rfl⟩
  unfold f107
  rw [w_e118, w_k_bs]
  by_cases h1 : w_k_wi o 0 5
  · rw [w_k_ift h1, if_neg w_k_01, w_e118, w_k_bs]
    by_cases h2 : w_k_wi m 0 999
    · rw [w_k_ift h2, if_neg w_k_01]
      unfold f107_11 f18
      unfold w_a_put at hW ⊢
      rw [if_pos (show w_k_wi o 0 5 ∧ w_k_wi m 0 999 from ⟨h1, h2⟩)] at hW ⊢
      rw [w_e116t, w_k_tbl]
      have hc := w_k_pcI hV
      rw [show s 25 0 = nI (w_k_pc A.2.2.2.1) from hv.1.2.2.2.2.2.2.trans hc]
      by_cases h8 : w_k_pc A.2.2.2.1 = 20
      · rw [if_neg (by rw [h8]; decide), w_k_bd, if_pos rfl, if_pos h8]
        exact w_ok_some ⟨rfl, H, fun _ _ => rfl⟩
      · rw [if_neg h8] at hW ⊢
        have hin : m_in (nI (w_k_pc A.2.2.2.1)) 20 = true := (w_k_inI (by omega)).2 (by omega)
        have hn : (nI (w_k_pc A.2.2.2.1)).toNatClampNeg = w_k_pc A.2.2.2.1 := w_k_nat (by omega)
        have h25 : s 25 0 = nI (w_k_pc A.2.2.2.1) := hv.1.2.2.2.2.2.2.trans hc
        rw [if_pos (show nI (w_k_pc A.2.2.2.1) < 20 from (w_k_lt (b := 20) (by omega) (by omega)).2 (by omega))]
        simp (disch := omega) only [hin, hn, w_k_let, w_k_wq, if_true, h25, w_k_bd]
        rw [if_neg w_k_01]
        have hCV : w_k_CV (g_w (g_w (g_w s (25 + 1) (w_k_pc A.2.2.2.1) o) (25 + 2) (w_k_pc A.2.2.2.1) m) 25 0 (nI (w_k_pc A.2.2.2.1) + 1)) 22 (w_k_put A.2.2.2.1 (w_k_pc A.2.2.2.1) o m) := by
          refine ⟨⟨?_, ?_, ?_, ?_, ?_, ?_, ?_⟩, fun g hh => ?_, fun r i hq hi => ?_, fun p hp => ?_⟩
          · simp (disch := omega) only [w_k_wq, w_k_putn]; exact hv.1.1
          · simp (disch := omega) only [w_k_wq, w_k_putn]; exact hv.1.2.1
          · simp (disch := omega) only [w_k_wq, w_k_putn]; exact hv.1.2.2.1
          · simp (disch := omega) only [w_k_wq, w_k_putn]; exact hv.1.2.2.2.1
          · simp (disch := omega) only [w_k_wq, w_k_putn]; exact hv.1.2.2.2.2.1
          · simp (disch := omega) only [w_k_wq, w_k_putn]; exact hv.1.2.2.2.2.2.1
          · rw [w_k_put6, hc]; exact w_k_wv
          · have e0 : w_k_hc (w_k_put A.2.2.2.1 (w_k_pc A.2.2.2.1) o m) = w_k_hc A.2.2.2.1 := congrArg Int32.toNatClampNeg (w_k_putn (by omega) (by omega) (by omega))
            rw [e0] at hh
            exact w_k_CH_cg (by simp (disch := omega) only [w_k_wn]) (fun j _ _ => w_k_putn (by omega) (by omega) (by omega)) (hv.2.1 g hh)
          · have w_e5 : w_k_qc (w_k_put A.2.2.2.1 (w_k_pc A.2.2.2.1) o m) = w_k_qc A.2.2.2.1 := congrArg Int32.toNatClampNeg (w_k_putn (by omega) (by omega) (by omega))
            rw [w_e5] at hq
            simp (disch := omega) only [w_k_wn, w_k_putn]; exact hv.2.2.1 r i hq hi
          · rw [w_k_putp hV] at hp
            by_cases e : p = w_k_pc A.2.2.2.1
            · subst e
              rw [w_k_puto rfl, w_k_putm rfl]
              simp (disch := omega) only [w_k_wq]
              exact ⟨w_k_wv, w_k_wv⟩
            · simp (disch := omega) only [w_k_wq, w_k_putn]; exact hv.2.2.2 p (by omega)
        rw [w_e19 (c := 22) hW hCV, w_k_bs]
        refine w_ok_some ⟨rfl, w_k_CI_V hA (fun x h1 _ h2 => ?_) H hCV, fun y hy => ?_⟩ <;> dsimp only <;> simp (disch := omega) only [w_k_wn]
    · rw [w_k_iff h2, if_pos rfl]; exact bad (fun h => h2 h.2)
  · rw [w_k_iff h1, if_pos rfl]; exact bad (fun h => h1 h.1)
theorem w_m_put {TR : w_k_TR} {s : g_S} {A : w_k_A} {o m : Int32} (hA : w_k_Aok A) (H : w_k_MI TR s A) : w_k_mop TR w_k_cI s (f210 s o m) (w_a_put A.2.2.2.1 o m).1 (w_k_sV A (w_a_put A.2.2.2.1 o m).2) := by
  have hV := hA.2.2.2.1
  have hb := w_k_Vb hV
  have hv := H.2.2.2.1
  have bad : ¬ (w_k_wi o 0 5 ∧ w_k_wi m 0 999) → w_k_mop TR w_k_cI s (f210_14 (g_w s 199 0 0) o m) (w_a_put A.2.2.2.1 o m).1 (w_k_sV A (w_a_put A.2.2.2.1 o m).2) := by
    intro h
    unfold f210_14 f210_17 w_a_put
    rw [if_neg h, w_e134b w_k_00 w_k_01, w_k_bd, if_neg w_k_01]
    exact w_m_ref hA H rfl
  unfold f210
  rw [w_k_let, w_e135, w_k_bs]
  by_cases h1 : w_k_wi o 0 5
  · rw [w_k_ift h1, if_neg w_k_01, w_e135, w_k_bs]
    by_cases h2 : w_k_wi m 0 999
    · rw [w_k_ift h2, if_neg w_k_01]
      unfold f210_17 w_a_put
      rw [if_pos (show w_k_wi o 0 5 ∧ w_k_wi m 0 999 from ⟨h1, h2⟩)]
      have hc := w_k_pcI hV
      have h49 : s 199 49 = nI (w_k_pc A.2.2.2.1) := hv.1.2.2.2.2.2.2.1.trans hc
      rw [w_e134o w_k_00, w_k_bd, if_pos rfl, w_k_0n (by omega), h49]
      by_cases h8 : w_k_pc A.2.2.2.1 = 20
      · simp only [if_pos h8]; rw [if_pos (by rw [h8]; rfl)]
        exact w_m_ans hA H
      · simp only [if_neg h8]
        have hin : m_in (nI (w_k_pc A.2.2.2.1)) 20 = true := (w_k_inI (by omega)).2 (by omega)
        have hn : (nI (w_k_pc A.2.2.2.1)).toNatClampNeg = w_k_pc A.2.2.2.1 := w_k_nat (by omega)
        rw [if_neg (show ¬ nI (w_k_pc A.2.2.2.1) = 20 from fun e => h8 ((w_k_eq (b := 20) (by omega) (by omega)).1 e))]
        simp (disch := omega) only [hin, hn, w_k_let, w_k_wq, if_true, h49]
        rw [w_k_wv]
        refine w_ok_some ⟨w_k_MI_V hA (fun x b h1 h2 h3 h4 => ?_) H ⟨⟨?_, ?_, ?_, ?_, ?_, ?_, ?_, ?_⟩, fun h i hh hi => ?_, fun h hh => ?_, fun h f hh hf => ?_, fun r i hq hi => ?_, fun p hp => ?_⟩, fun y hy => ?_, fun w hw => ?_, fun e he => by cases he⟩
        · unfold w_k_sM at h3; unfold w_k_ch at h4; dsimp only; simp (disch := omega) only [w_k_wq]
        · dsimp only; simp (disch := omega) only [w_k_wq, w_k_putn]; exact hv.1.1
        · dsimp only; simp (disch := omega) only [w_k_wq, w_k_putn]; exact hv.1.2.1
        · dsimp only; simp (disch := omega) only [w_k_wq, w_k_putn]; exact hv.1.2.2.1
        · dsimp only; simp (disch := omega) only [w_k_wq, w_k_putn]; exact hv.1.2.2.2.1
        · dsimp only; simp (disch := omega) only [w_k_wq, w_k_putn]; exact hv.1.2.2.2.2.1
        · dsimp only; simp (disch := omega) only [w_k_wq, w_k_putn]; exact hv.1.2.2.2.2.2.1
        · dsimp only; simp (disch := omega) only [w_k_wq, w_k_wv, w_k_put6]; rw [hc]
        · dsimp only; simp (disch := omega) only [w_k_wq, w_k_wv, w_k_put7]; rw [hv.1.2.2.2.2.2.2.2]
        · dsimp only; simp (disch := omega) only [w_k_wq, w_k_putn]; exact hv.2.1 h i hh hi
        · dsimp only; simp (disch := omega) only [w_k_wq, w_k_putn]; exact hv.2.2.1 h hh
        · dsimp only; simp (disch := omega) only [w_k_wq, w_k_putn]; exact hv.2.2.2.1 h f hh hf
        · dsimp only; simp (disch := omega) only [w_k_wq, w_k_putn]; exact hv.2.2.2.2.1 r i hq hi
        · dsimp only
          by_cases e : p = w_k_pc A.2.2.2.1
          · subst e
            rw [w_k_puto rfl, w_k_putm rfl]
            simp (disch := omega) only [w_k_wq, w_k_wv]; exact ⟨trivial, trivial⟩
          · simp (disch := omega) only [w_k_wq, w_k_putn]; exact hv.2.2.2.2.2 p hp
        · dsimp only; simp (disch := omega) only [w_k_wn]
        · cases hw; refine ⟨?_, ?_⟩
          · dsimp only; simp (disch := omega) only [w_k_wq, w_k_wv]
          · dsimp only; rw [hv.1.2.2.2.2.2.2.2]
    · rw [w_k_iff h2, if_pos rfl]; exact bad (fun h => h2 h.2)
  · rw [w_k_iff h1, if_pos rfl]; exact bad (fun h => h1 h.1)
/-! holder -/
def w_k_hol (V : w_k_V) : Nat → Nat
  | 0 => 0
  | k + 1 => if 1 ≤ k ∧ ¬ V 3 < V (11 + 12 * k) then k else w_k_hol V k
def w_k_holder (V : w_k_V) : Int32 := if V 2 = -1 then -1 else nI (w_k_hol V (w_k_hc V))
theorem w_k_hol_s (V : w_k_V) (k : Nat) : w_k_hol V (k + 1) = if 1 ≤ k ∧ ¬ V 3 < V (11 + 12 * k) then k else w_k_hol V k := rfl
theorem w_k_hol_le (V : w_k_V) : ∀ n, w_k_hol V n ≤ n - 1
  | 0 => Nat.le_refl _
  | n + 1 => by
    unfold w_k_hol; split
    · omega
    · have := w_k_hol_le V n; omega
theorem w_e2_10 {s : g_S} {c : Nat} {V : w_k_V} (H : w_k_CV s c V) (h0 : V 0 = nI (w_k_hc V)) (hb : w_k_hc V ≤ 13) : ∀ d t, 1 ≤ t → t + d = w_k_hc V → f2_10L s c (nI (w_k_hol V t)) (nI t) = some (nI (w_k_hol V (w_k_hc V)))
  | 0, t, h1, e => by
    have e' : t = w_k_hc V := by omega
    subst e'
    rw [f2_10L_eq]; unfold f2_10
    rw [H.1.1, if_neg (by rw [h0]; exact w_k_nlt (by omega) (by omega) (by omega))]
    rfl
  | d + 1, t, h1, e => by
    rw [f2_10L_eq]; unfold f2_10
    obtain ⟨g1, _⟩ := H.2.1 t (by omega)
    rw [H.1.1, if_pos (by rw [h0]; exact (w_k_lt (by omega) (by omega)).2 (by omega)), if_pos (w_k_hin (by omega)), w_k_nat (by omega), w_k_s1, H.1.2.2.2.1, g1 1 (by omega), if_neg (show ¬ t = 0 by omega), show 10 + 12 * t + 1 = 11 + 12 * t by omega]
    have ih := w_e2_10 H h0 hb d (t + 1) (by omega) (by omega)
    rw [w_k_hol_s] at ih
    by_cases hd : V 3 < V (11 + 12 * t)
    · rw [if_pos hd]
      rw [if_neg (fun h => h.2 hd)] at ih
      unfold g_st
      exact ih
    · rw [if_neg hd]
      rw [if_pos ⟨h1, hd⟩] at ih
      unfold g_st
      exact ih
theorem w_e2 {s : g_S} {c n : Nat} {V : w_k_V} (hV : w_k_Vok n V) (H : w_k_CV s c V) : f2 s c = some (w_k_holder V) := by
  unfold f2 w_k_holder
  rw [H.1.2.2.1]
  by_cases h : V 2 = -1
  · rw [if_pos h, if_pos h]
  · rw [if_neg h, if_neg h]
    exact w_e2_10 H (w_k_hcI hV) (w_k_Vb hV).1 (w_k_hc V - 1) 1 (by omega) (by have := hV.1.2.1; omega)
theorem w_e179_11 {s : g_S} {V : w_k_V} (H : w_k_MV s V) (h0 : V 0 = nI (w_k_hc V)) (hb : w_k_hc V ≤ 13) (hh : V 2 ≠ -1) : ∀ d t, 1 ≤ t → t + d = w_k_hc V → ∀ x, (∀ y b, ¬ (y = 199 ∧ b = 34) → x y b = s y b) → x 199 34 = nI (w_k_hol V t) → ∃ u, f179_11L x (nI t) = some u ∧ u 199 34 = nI (w_k_hol V (w_k_hc V)) ∧ ∀ y b, ¬ (y = 199 ∧ b = 34) → u y b = s y b
  | 0, t, h1, e, x, hx, ht => by
    have e' : t = w_k_hc V := by omega
    subst e'
    rw [f179_11L_eq]; unfold f179_11
    rw [hx 199 26 (by omega), H.1.1, if_neg (by rw [h0]; exact w_k_nlt (by omega) (by omega) (by omega))]
    exact ⟨x, rfl, ht, hx⟩
  | d + 1, t, h1, e, x, hx, ht => by
    rw [f179_11L_eq]; unfold f179_11
    have g1 := H.2.1 t 1 (by omega) (by omega)
    rw [hx 199 26 (by omega), hx 199 28 (by omega), hx 199 29 (by omega), H.1.1, H.1.2.2.1, H.1.2.2.2.1, if_pos (by rw [h0]; exact (w_k_lt (by omega) (by omega)).2 (by omega)), if_neg hh, if_pos (w_k_hin (by omega)), w_k_nat (by omega), w_k_s1, hx _ _ (by omega), g1, show 10 + 12 * t + 1 = 11 + 12 * t by omega]
    have ih := w_e179_11 H h0 hb hh d (t + 1) (by omega) (by omega)
    rw [w_k_hol_s] at ih
    by_cases hd : V 3 < V (11 + 12 * t)
    · rw [if_pos hd]
      rw [if_neg (fun h => h.2 hd)] at ih
      exact ih x hx ht
    · rw [if_neg hd]
      rw [if_pos ⟨h1, hd⟩] at ih
      refine ih (g_w x 199 34 (nI t)) (fun y b h => ?_) w_k_wv
      rw [w_k_wq h]; exact hx y b h
theorem w_e179 {s : g_S} {n : Nat} {V : w_k_V} (hV : w_k_Vok n V) (H : w_k_MV s V) : ∃ u, f179 s = some u ∧ u 199 34 = w_k_holder V ∧ ∀ y b, ¬ (y = 199 ∧ b = 34) → u y b = s y b := by
  unfold f179 f179_8 w_k_holder
  have hb := w_k_Vb hV
  have h1 := hV.1.2.1
  rw [H.1.2.2.1]
  by_cases h : V 2 = -1
  · rw [if_pos h, if_pos h, w_k_let, f179_11L_eq]; unfold f179_11
    have hc : w_k_hc V ≤ 1 ∨ 1 < w_k_hc V := by omega
    rw [w_k_wq (by omega), H.1.1, w_k_hcI hV, w_k_wq (by omega), H.1.2.2.1, if_pos h]
    refine ⟨g_w s 199 34 (-1), ?_, w_k_wv, fun y b h => w_k_wq h⟩
    by_cases hc : 1 < w_k_hc V
    · rw [if_pos (show (1 : Int32) < nI (w_k_hc V) from (w_k_lt (a := 1) (by omega) (by omega)).2 hc)]; rfl
    · rw [if_neg (show ¬ (1 : Int32) < nI (w_k_hc V) from w_k_nlt (a := 1) (by omega) (by omega) hc)]; rfl
  · rw [if_neg h, if_neg h, w_k_let]
    exact w_e179_11 H (w_k_hcI hV) hb.1 h (w_k_hc V - 1) 1 (by omega) (by omega) _ (fun y b h => w_k_wq h) w_k_wv
theorem w_c_holder {s : g_S} {A : w_k_A} (hA : w_k_Aok A) (H : w_k_CI s A) : f90 s = some (w_k_holder A.2.2.2.1) := by
  unfold f90; rw [w_e2 hA.2.2.2.1 H.2.2.2.2.1]; rfl
theorem w_k_M0 {s : g_S} {V : w_k_V} (H : w_k_MV s V) : w_k_MV (g_w s 199 0 0) V := w_k_MV_cg H (w_k_eM_w w_k_eM_rfl (by unfold w_k_sM; omega))
theorem w_m_scr {TR : w_k_TR} {s t : g_S} {A : w_k_A} {v : Int32} (hA : w_k_Aok A) (H : w_k_MI TR s A) (h : w_k_eM s t) : w_k_mov TR s (some (v, t)) v A := by
  refine w_ok_some ⟨w_k_MI_cg hA (fun x b h1 h2 h3 => h x b h3) H, fun y hy => funext fun b => h y b ?_, rfl⟩
  unfold w_k_sM; omega
theorem w_m_scr2 {TR : w_k_TR} {cd : Nat → Int32} {s t : g_S} {A : w_k_A} {v : Int32} (hA : w_k_Aok A) (H : w_k_MI TR s A) (h : w_k_eM s t) (h0 : t 199 0 = 0) : w_k_mop TR cd s (some (v, t)) (.inl v) A := by
  refine w_ok_some ⟨w_k_MI_cg hA (fun x b h1 h2 h3 => h x b h3) H, fun y hy => funext fun b => h y b ?_, fun w hw => by cases hw; exact ⟨h0, rfl⟩, fun e he => by cases he⟩
  unfold w_k_sM; omega
theorem w_m_holder {TR : w_k_TR} {s : g_S} {A : w_k_A} (hA : w_k_Aok A) (H : w_k_MI TR s A) : w_k_mov TR s (f183 s) (w_k_holder A.2.2.2.1) A := by
  unfold f183
  obtain ⟨u, w_e1, w_e2, w_e3⟩ := w_e179 hA.2.2.2.1 (w_k_M0 H.2.2.2.1)
  rw [w_k_let, w_e1, w_k_bs, w_e2]
  refine w_m_scr hA H (fun x b hx => ?_)
  unfold w_k_sM at hx
  rw [w_e3 x b (by omega), w_k_wq (by omega)]
/-! fault, count -/
theorem w_m_fault {TR : w_k_TR} {s : g_S} {A : w_k_A} (hA : w_k_Aok A) (H : w_k_MI TR s A) : w_k_mov TR s (f166 s) A.2.1 A := by
  unfold f166
  rw [w_k_let, w_k_0n (by omega), H.1.2.2.1]
  exact w_m_scr hA H (w_k_eM_w w_k_eM_rfl (by unfold w_k_sM; omega))
theorem w_c_fault {s : g_S} {A : w_k_A} (H : w_k_CI s A) : f80 s = some A.2.1 := by unfold f80; rw [H.1.2.2.1]
def w_a_count (A : w_k_A) (w : Int32) : Int32 :=
  if w = 0 then nI A.2.2.1.length else if w = 1 then A.2.2.2.1 0 else if w = 2 then A.2.2.2.1 5 else if w = 3 then A.2.2.2.1 7 else if w = 4 then A.2.2.2.1 6 else if w = 5 then nI A.2.2.2.2.length else if w = 6 then nI A.1.1 else if w = 7 then A.2.2.2.1 1 else -1
theorem w_c_count {s : g_S} {A : w_k_A} {w : Int32} (hA : w_k_Aok A) (H : w_k_CI s A) : f115 s w = some (w_a_count A w) := by
  have hv := H.2.2.2.2.1
  unfold f115 w_a_count
  rw [H.1.1, H.1.2.1, H.1.2.2.2, hv.1.1, hv.1.2.1, hv.1.2.2.2.2.2.1, show s 25 0 = A.2.2.2.1 6 from hv.1.2.2.2.2.2.2, show f19 s 25 = _ from w_e19 (c := 22) hA.2.2.2.1 hv, w_k_bs]
  repeat' split
  all_goals rfl
theorem w_m_count {TR : w_k_TR} {s : g_S} {A : w_k_A} {w : Int32} (hA : w_k_Aok A) (H : w_k_MI TR s A) : w_k_mov TR s (f221 s w) (w_a_count A w) A := by
  have hv := H.2.2.2.1
  unfold f221 w_a_count
  rw [w_k_let]
  simp (disch := omega) only [w_k_0n, H.1.1, H.1.2.1, H.1.2.2.2, hv.1.1, hv.1.2.1, hv.1.2.2.2.2.2.1, hv.1.2.2.2.2.2.2.1, hv.1.2.2.2.2.2.2.2]
  repeat' split
  all_goals exact w_m_scr hA H (w_k_eM_w w_k_eM_rfl (by unfold w_k_sM; omega))
/-! one chain set to another -/
theorem w_k_CH_cp {s u : g_S} {x y h : Nat} {V : w_k_V} (hu : ∀ i, i < 8 → u y i = s x i) (H : w_k_CH s x h V) : w_k_CH u y h V := by
  obtain ⟨h1, h2, h3, m, hm, h4, h5⟩ := H
  exact ⟨fun i hi => by rw [hu i (by omega)]; exact h1 i hi, by rw [hu 5 (by omega)]; exact h2, by rw [hu 6 (by omega)]; exact h3, m, hm, by rw [hu 7 (by omega)]; exact h4, h5⟩
theorem w_e24 {s : g_S} {y x : Nat} (hxy : x ≠ y) : ∃ u, f24 s y x = some u ∧ (∀ i, i < 8 → u y i = s x i) ∧ ∀ z, z ≠ y → u z = s z := by
  unfold f24
  simp (disch := omega) only [w_k_let, w_k_wn]
  refine ⟨_, rfl, fun i hi => ?_, fun z hz => ?_⟩
  · match i, hi with
    | 0, _ => simp (disch := omega) only [w_k_wq, w_k_wv]
    | 1, _ => simp (disch := omega) only [w_k_wq, w_k_wv]
    | 2, _ => simp (disch := omega) only [w_k_wq, w_k_wv]
    | 3, _ => simp (disch := omega) only [w_k_wq, w_k_wv]
    | 4, _ => simp (disch := omega) only [w_k_wq, w_k_wv]
    | 5, _ => simp (disch := omega) only [w_k_wq, w_k_wv]
    | 6, _ => simp (disch := omega) only [w_k_wq, w_k_wv]
    | 7, _ => simp (disch := omega) only [w_k_wq, w_k_wv]
  · simp (disch := omega) only [w_k_wn]
theorem w_e76 {s : g_S} {y x : Nat} (hxy : x ≠ y) : ∃ u, f76 s y x = some u ∧ (∀ i, i < 3 → u y i = s x i) ∧ ∀ z, z ≠ y → u z = s z := by
  unfold f76
  simp (disch := omega) only [w_k_let, w_k_wn]
  refine ⟨_, rfl, fun i hi => ?_, fun z hz => ?_⟩
  · match i, hi with
    | 0, _ => simp (disch := omega) only [w_k_wq, w_k_wv]
    | 1, _ => simp (disch := omega) only [w_k_wq, w_k_wv]
    | 2, _ => simp (disch := omega) only [w_k_wq, w_k_wv]
  · simp (disch := omega) only [w_k_wn]
theorem w_e1_34 {s t : g_S} {c0 c1 : Nat} {V : w_k_V} (H : w_k_CV s c1 V) (b5 : w_k_qc V ≤ 8) (b6 : w_k_pc V ≤ 20) (hd : c0 + 27 ≤ c1 ∨ c1 + 27 ≤ c0) (ht : ∀ x, (x < c0 ∨ c0 + 27 ≤ x) → t x = s x)
    (h1 : ∀ h, h < w_k_hc V → w_k_CH t (c0 + 6 + h) h V) (h2 : ∀ q i, q < w_k_qc V → i < 3 → t (c0 + 19 + q) i = V (170 + 3 * q + i)) :
    ∃ u, f1_34 t c0 c1 = some u ∧ w_k_CV u c0 V ∧ ∀ x, (x < c0 ∨ c0 + 27 ≤ x) → u x = s x := by
  obtain ⟨⟨a1, a2, a3, a4, a5, a6, a7⟩, _, _, a8⟩ := H
  have w_e1 : t c1 = s c1 := ht _ (by omega)
  have w_e3 : t (c1 + 3) = s (c1 + 3) := ht _ (by omega)
  have w_e4 : t (c1 + 4) = s (c1 + 4) := ht _ (by omega)
  have w_e5 : t (c1 + 5) = s (c1 + 5) := ht _ (by omega)
  unfold f1_34 f17
  rw [w_k_let, if_pos (by decide), w_k_let, if_pos (by decide), w_k_let, w_k_bs]
  rw [show c0 + 3 + 1 = c0 + 4 from rfl, show c0 + 3 + 2 = c0 + 5 from rfl, show c1 + 3 + 1 = c1 + 4 from rfl, show c1 + 3 + 2 = c1 + 5 from rfl]
  simp (disch := omega) only [w_k_let, w_k_wn, w_k_wan, w_e1, w_e3, w_e4, w_e5]
  rw [a1, a2, a3, a4, a5, a6, a7]
  refine ⟨_, rfl, ⟨⟨?_, ?_, ?_, ?_, ?_, ?_, ?_⟩, fun h hh => ?_, fun q i hq hi => ?_, fun p hp => ?_⟩, fun x hx => ?_⟩
  · simp (disch := omega) only [w_k_wq, w_k_wv]
  · simp (disch := omega) only [w_k_wq, w_k_wv]
  · simp (disch := omega) only [w_k_wq, w_k_wv]
  · simp (disch := omega) only [w_k_wq, w_k_wv]
  · simp (disch := omega) only [w_k_wq, w_k_wv]
  · simp (disch := omega) only [w_k_wq, w_k_wv]
  · simp (disch := omega) only [w_k_wn, w_k_wan]; exact w_k_wv
  · refine w_k_CH_cg ?_ (fun _ _ _ => rfl) (h1 h hh)
    simp (disch := omega) only [w_k_wn, w_k_wan]
  · simp (disch := omega) only [w_k_wn, w_k_wan]; exact h2 q i hq hi
  · simp (disch := omega) only [w_k_wn, w_k_wan, w_k_wae]
    unfold va_cpy
    rw [if_pos (by omega), if_pos (by omega)]
    simp only [Nat.sub_zero, Nat.zero_add]
    exact a8 p hp
  · simp (disch := omega) only [w_k_wn, w_k_wan]; exact ht x hx
theorem w_e1_19 {s : g_S} {c0 c1 : Nat} {V : w_k_V} (H : w_k_CV s c1 V) (h5 : V 5 = nI (w_k_qc V)) (b5 : w_k_qc V ≤ 8) (b6 : w_k_pc V ≤ 20) (b0 : w_k_hc V ≤ 13) (hd : c0 + 27 ≤ c1 ∨ c1 + 27 ≤ c0) : ∀ d n t, n + d = w_k_qc V →
    (∀ x, (x < c0 ∨ c0 + 27 ≤ x) → t x = s x) → (∀ h, h < w_k_hc V → w_k_CH t (c0 + 6 + h) h V) → (∀ q i, q < n → i < 3 → t (c0 + 19 + q) i = V (170 + 3 * q + i)) →
    ∃ u, f1_19L t c0 c1 (nI n) = some u ∧ w_k_CV u c0 V ∧ ∀ x, (x < c0 ∨ c0 + 27 ≤ x) → u x = s x
  | 0, n, t, e, ht, h1, h2 => by
    have e' : n = w_k_qc V := by omega
    subst e'
    rw [f1_19L_eq]; unfold f1_19
    rw [ht c1 (by omega), H.1.2.2.2.2.2.1, if_neg (by rw [h5]; exact w_k_nlt (by omega) (by omega) (by omega))]
    obtain ⟨u, q1, q2⟩ := w_e1_34 H b5 b6 hd ht h1 h2
    rw [q1]
    exact ⟨u, rfl, q2⟩
  | d + 1, n, t, e, ht, h1, h2 => by
    rw [f1_19L_eq]; unfold f1_19
    rw [ht c1 (by omega), H.1.2.2.2.2.2.1, if_pos (by rw [h5]; exact (w_k_lt (by omega) (by omega)).2 (by omega)), if_pos ((w_k_inI (by omega)).2 (by omega)), w_k_nat (by omega)]
    obtain ⟨u, q1, q2, q3⟩ := w_e76 (s := t) (y := c0 + 19 + n) (x := c1 + 19 + n) (by omega)
    rw [q1, w_k_bs, w_k_s1]
    refine w_e1_19 H h5 b5 b6 b0 hd d (n + 1) u (by omega) (fun x hx => ?_) (fun h hh => ?_) (fun q i hq hi => ?_)
    · rw [q3 x (by omega)]; exact ht x hx
    · exact w_k_CH_cg (q3 _ (by omega)) (fun _ _ _ => rfl) (h1 h hh)
    · by_cases e : q = n
      · subst e
        rw [q2 i hi, ht _ (by omega)]; exact H.2.2.1 q i (by omega) hi
      · rw [q3 _ (by omega)]; exact h2 q i (by omega) hi
theorem w_e1_2 {s : g_S} {c0 c1 m : Nat} {V : w_k_V} (H : w_k_CV s c1 V) (hV : w_k_Vok m V) (hd : c0 + 27 ≤ c1 ∨ c1 + 27 ≤ c0) : ∀ d n t, n + d = w_k_hc V →
    (∀ x, (x < c0 ∨ c0 + 27 ≤ x) → t x = s x) → (∀ h, h < n → w_k_CH t (c0 + 6 + h) h V) →
    ∃ u, f1_2L t c0 c1 (nI n) = some u ∧ w_k_CV u c0 V ∧ ∀ x, (x < c0 ∨ c0 + 27 ≤ x) → u x = s x
  | 0, n, t, e, ht, h1 => by
    have hb := w_k_Vb hV
    have e' : n = w_k_hc V := by omega
    subst e'
    rw [f1_2L_eq]; unfold f1_2
    rw [ht c1 (by omega), H.1.1, if_neg (by rw [w_k_hcI hV]; exact w_k_nlt (by omega) (by omega) (by omega))]
    obtain ⟨u, q1, q2⟩ := w_e1_19 H (w_k_qcI hV) hb.2.1 hb.2.2 hb.1 hd (w_k_qc V) 0 t (by omega) ht h1 (fun _ _ h _ => absurd h (by omega))
    rw [show (0 : Int32) = nI 0 from rfl, q1]
    exact ⟨u, rfl, q2⟩
  | d + 1, n, t, e, ht, h1 => by
    have hb := w_k_Vb hV
    rw [f1_2L_eq]; unfold f1_2
    rw [ht c1 (by omega), H.1.1, if_pos (by rw [w_k_hcI hV]; exact (w_k_lt (by omega) (by omega)).2 (by omega)), if_pos (w_k_hin (by omega)), w_k_nat (by omega)]
    obtain ⟨u, q1, q2, q3⟩ := w_e24 (s := t) (y := c0 + 6 + n) (x := c1 + 6 + n) (by omega)
    rw [q1, w_k_bs, w_k_s1]
    refine w_e1_2 H hV hd d (n + 1) u (by omega) (fun x hx => ?_) (fun h hh => ?_)
    · rw [q3 x (by omega)]; exact ht x hx
    · by_cases e : h = n
      · subst e
        refine w_k_CH_cp (fun i hi => ?_) (H.2.1 h (by omega))
        rw [q2 i hi, ht _ (by omega)]
      · exact w_k_CH_cg (q3 _ (by omega)) (fun _ _ _ => rfl) (h1 h (by omega))
theorem w_e1 {s : g_S} {c0 c1 m : Nat} {V : w_k_V} (H : w_k_CV s c1 V) (hV : w_k_Vok m V) (hd : c0 + 27 ≤ c1 ∨ c1 + 27 ≤ c0) :
    ∃ u, f1 s c0 c1 = some u ∧ w_k_CV u c0 V ∧ ∀ x, (x < c0 ∨ c0 + 27 ≤ x) → u x = s x := by
  unfold f1
  exact w_e1_2 H hV hd (w_k_hc V) 0 s (by omega) (fun _ _ => rfl) (fun _ h => absurd h (by omega))
/-! a question told -/
def w_k_tq (V : w_k_V) (q h o b h0 d0 : Int32) : w_k_V :=
  if q = 4 then upd V 2 (if b = 0 then h0 else o) else if q = 5 then upd V 3 (if b = 0 then d0 else o) else upd V (17 + 12 * h.toNatClampNeg + q.toNatClampNeg) b
theorem w_v_tq {n : Nat} {V : w_k_V} {q h o b h0 d0 : Int32} (H : w_k_Vok n V) (hb : m_isb b = true) (hq : w_k_wi q 0 5) (hh : q < 4 → w_k_wi h 0 (V 0 - 1)) (h4 : q = 4 → w_k_wi o 0 5) (h5 : q = 5 → w_k_wi o 0 999) (g0 : w_k_wi h0 (-1) 5) (g1 : w_k_wi d0 0 999) : w_k_Vok n (w_k_tq V q h o b h0 d0) := by
  have hwk : w_k_wi o 0 5 → w_k_wi o (-1) 5 := fun h => (w_k_wm (n := 6) (by omega)).2 (Or.inr h)
  unfold w_k_tq
  by_cases w_e4 : q = 4
  · rw [if_pos w_e4]
    refine w_k_Vok_f H (fun j hj => w_k_un (by omega)) H.2.2.2.2.2.2.2.2.2.2.2.1 ?_ H.2.2.2.2.1 H.2.2.2.2.2.1
    rw [w_k_ue]; split
    · exact g0
    · exact hwk (h4 w_e4)
  · rw [if_neg w_e4]
    by_cases w_e5 : q = 5
    · rw [if_pos w_e5]
      refine w_k_Vok_f H (fun j hj => w_k_un (by omega)) H.2.2.2.2.2.2.2.2.2.2.2.1 H.2.2.2.1 ?_ H.2.2.2.2.2.1
      rw [w_k_ue]; split
      · exact g1
      · exact h5 w_e5
    · rw [if_neg w_e5]
      have h3 : w_k_wi q 0 3 := ((w_k_wi4.1 hq).elim id (fun h => absurd h (by rintro (h | h); exact w_e4 h; exact w_e5 h)))
      obtain ⟨i, hi, rfl⟩ := w_k_iL 3 h3 rfl (by omega)
      obtain ⟨k, hk, hk3, rfl⟩ := w_k_hx H (hh (w_k_wi3l h3).1)
      rw [w_k_nat (by omega), w_k_nat (by omega)]
      exact w_k_Vok_b H hk3 (by omega) hb
theorem w_e8 {s : g_S} {c x c3 n : Nat} {V : w_k_V} {q h o b h0 d0 : Int32} (hV : w_k_Vok n V) (H : w_k_CV s c V) (hb : m_isb b = true) (hq : w_k_wi q 0 5) (hh : q < 4 → w_k_wi h 0 (V 0 - 1))
    (x0 : s x 0 = q) (x1 : s x 1 = h) (x2 : s x 2 = o) (x3 : s c3 3 = h0) (x4 : s c3 4 = d0) :
    ∃ u, f8 s c x b c3 = some u ∧ w_k_CV u c (w_k_tq V q h o b h0 d0) ∧ ∀ y, y ≠ c → ¬ (c + 6 ≤ y ∧ y < c + 19) → u y = s y := by
  have hbd := w_k_Vb hV
  unfold f8 w_k_tq
  rw [x0, x1, x2, x3, x4]
  by_cases w_e4 : q = 4
  · rw [if_pos w_e4, if_pos w_e4]
    have key : ∀ v, ∃ u, f8_12 s c x b c3 v = some u ∧ w_k_CV u c (upd V 2 v) ∧ ∀ y, y ≠ c → ¬ (c + 6 ≤ y ∧ y < c + 19) → u y = s y := by
      intro v
      refine ⟨g_w s c 3 v, rfl, w_k_CV_mk H hbd.1 hbd.2.1 rfl rfl rfl (fun j hj => w_k_un (by omega)) (fun x h1 h2 => w_k_wn (by omega)) ?_, fun y h1 _ => w_k_wn h1⟩
      exact ⟨by rw [w_k_wq (by omega), H.1.1]; rfl, by rw [w_k_wq (by omega), H.1.2.1]; rfl, by rw [w_k_wv]; rfl, by rw [w_k_wq (by omega), H.1.2.2.2.1]; rfl, by rw [w_k_wq (by omega), H.1.2.2.2.2.1]; rfl, by rw [w_k_wq (by omega), H.1.2.2.2.2.2.1]; rfl⟩
    by_cases eb : b = 0
    · rw [if_pos eb, if_pos eb]; exact key h0
    · rw [if_neg eb, if_neg eb]; exact key o
  · rw [if_neg w_e4, if_neg w_e4]
    by_cases w_e5 : q = 5
    · rw [if_pos w_e5, if_pos w_e5]
      have key : ∀ v, ∃ u, f8_26 s c x b c3 v = some u ∧ w_k_CV u c (upd V 3 v) ∧ ∀ y, y ≠ c → ¬ (c + 6 ≤ y ∧ y < c + 19) → u y = s y := by
        intro v
        refine ⟨g_w s c 4 v, rfl, w_k_CV_mk H hbd.1 hbd.2.1 rfl rfl rfl (fun j hj => w_k_un (by omega)) (fun x h1 h2 => w_k_wn (by omega)) ?_, fun y h1 _ => w_k_wn h1⟩
        exact ⟨by rw [w_k_wq (by omega), H.1.1]; rfl, by rw [w_k_wq (by omega), H.1.2.1]; rfl, by rw [w_k_wq (by omega), H.1.2.2.1]; rfl, by rw [w_k_wv]; rfl, by rw [w_k_wq (by omega), H.1.2.2.2.2.1]; rfl, by rw [w_k_wq (by omega), H.1.2.2.2.2.2.1]; rfl⟩
      by_cases eb : b = 0
      · rw [if_pos eb, if_pos eb]; exact key d0
      · rw [if_neg eb, if_neg eb]; exact key o
    · rw [if_neg w_e5, if_neg w_e5]
      have h3 : w_k_wi q 0 3 := ((w_k_wi4.1 hq).elim id (fun h => absurd h (by rintro (h | h); exact w_e4 h; exact w_e5 h)))
      obtain ⟨i, hi, rfl⟩ := w_k_iL 3 h3 rfl (by omega)
      obtain ⟨k, hk, hk3, rfl⟩ := w_k_hx hV (hh (w_k_wi3l h3).1)
      rw [w_e118, w_k_ift (show w_k_wi (nI k) 0 12 from w_k_iC (n := 12) (by omega) (by omega)), w_k_bs, if_neg w_k_01, if_pos (w_k_hin hk3), w_k_nat (by omega), w_k_nat (by omega)]
      obtain ⟨m, hm, q1, q2, q3⟩ := w_k_tell (H.2.1 k hk) (f := i) (by omega) hb
      rw [q1]
      refine ⟨_, rfl, w_k_CV_hand H hbd.1 hbd.2.1 hk (fun j hj => w_k_un (by omega)) (fun x h1 h2 h3 => w_k_wn (by omega)) q2, fun y _ hy => w_k_wn (by omega)⟩
