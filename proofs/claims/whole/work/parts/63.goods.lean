/-! put, and the sum of the goods -/
def k_put (V : k_V) (n : Nat) (o m : Int32) : k_V := fun j => if j = 6 then V 6 + 1 else if j = 7 then V 7 + m else if j = 200 + 2 * n then o else if j = 201 + 2 * n then m else V j
theorem k_putn {V : k_V} {n j : Nat} {o m : Int32} (h0 : j ≠ 6) (h1 : j ≠ 7) (h2 : j < 200 + 2 * n ∨ 202 + 2 * n ≤ j) : k_put V n o m j = V j := by
  unfold k_put; rw [if_neg h0, if_neg h1, if_neg (by omega), if_neg (by omega)]
theorem k_puto {V : k_V} {n j : Nat} {o m : Int32} (e : j = 200 + 2 * n) : k_put V n o m j = o := by
  unfold k_put; rw [if_neg (by omega), if_neg (by omega), if_pos e]
theorem k_putm {V : k_V} {n j : Nat} {o m : Int32} (e : j = 201 + 2 * n) : k_put V n o m j = m := by
  unfold k_put; rw [if_neg (by omega), if_neg (by omega), if_neg (by omega), if_pos e]
theorem k_put6 {V : k_V} {n : Nat} {o m : Int32} : k_put V n o m 6 = V 6 + 1 := rfl
theorem k_put7 {V : k_V} {n : Nat} {o m : Int32} : k_put V n o m 7 = V 7 + m := rfl
def a_put (V : k_V) (o m : Int32) : (Int32 ⊕ Nat) × k_V :=
  if k_wi o 0 5 ∧ k_wi m 0 999 then (if k_pc V = 20 then (.inl (-1), V) else (.inl (V 7 + m), k_put V (k_pc V) o m)) else (.inr 0, V)
theorem k_putp {n : Nat} {V : k_V} {o m : Int32} (H : k_Vok n V) : k_pc (k_put V (k_pc V) o m) = k_pc V + 1 := by
  have hb := k_Vb H
  unfold k_pc; rw [k_put6, k_pcI H, k_s1, k_nat (by omega), k_nat (by omega)]
theorem v_put {n : Nat} {V : k_V} {o m : Int32} (H : k_Vok n V) : k_Vok n (a_put V o m).2 := by
  unfold a_put
  by_cases hg : k_wi o 0 5 ∧ k_wi m 0 999
  · rw [if_pos hg]
    by_cases h8 : k_pc V = 20
    · rw [if_pos h8]; exact H
    · rw [if_neg h8]
      have hb := k_Vb H
      have hc := k_pcI H
      have e6 := k_putp (o := o) (m := m) H
      obtain ⟨a1, a2, a3, a4, a5, a6, a7, a8, a9, b1, b2, b3, b4⟩ := H
      dsimp only
      have e0 : k_hc (k_put V (k_pc V) o m) = k_hc V := congrArg Int32.toNatClampNeg (k_putn (by omega) (by omega) (by omega))
      have e5 : k_qc (k_put V (k_pc V) o m) = k_qc V := congrArg Int32.toNatClampNeg (k_putn (by omega) (by omega) (by omega))
      unfold k_Vok
      rw [e0, e5, e6, k_put6, k_put7, k_putn (j := 0) (by omega) (by omega) (by omega), k_putn (j := 5) (by omega) (by omega) (by omega), k_putn (j := 2) (by omega) (by omega) (by omega), k_putn (j := 3) (by omega) (by omega) (by omega), k_putn (j := 4) (by omega) (by omega) (by omega), k_putn (j := 1) (by omega) (by omega) (by omega)]
      refine ⟨a1, a2, ⟨?_, by omega⟩, a4, a5, a6, ?_, fun h h1 h2 => ?_, fun h f h1 h2 => ?_, fun r hq => ?_, fun p hp => ?_, b3, fun h h2 => ?_⟩
      · rw [hc, k_s1]
      · show V 7 + m = k_sum _ (k_pc V) + k_put V (k_pc V) o m (201 + 2 * k_pc V)
        rw [k_sum_cg (V := V) _ (fun q _ => k_putn (by omega) (by omega) (by omega)), k_putm rfl, a7]
      · rw [k_putn (by omega) (by omega) (by omega), k_putn (by omega) (by omega) (by omega), k_putn (by omega) (by omega) (by omega)]
        exact a8 h h1 h2
      · rw [k_putn (by omega) (by omega) (by omega)]
        exact a9 h f h1 h2
      · rw [k_putn (by omega) (by omega) (by omega), k_putn (by omega) (by omega) (by omega), k_putn (by omega) (by omega) (by omega)]
        exact b1 r hq
      · by_cases e : p = k_pc V
        · subst e; rw [k_putm rfl]; exact hg.2
        · rw [k_putn (by omega) (by omega) (by omega)]; exact b2 p (by omega)
      · rw [k_putn (by omega) (by omega) (by omega)]; exact b4 h h2
  · rw [if_neg hg]; exact H
theorem e19_4 {s : g_S} {c : Nat} {V : k_V} (H : k_CV s c V) (h6 : V 6 = nI (k_pc V)) (hp : k_pc V ≤ 20) : ∀ d t, t + d = k_pc V → f19_4L s (c + 3) (k_sum V t) (nI t) = some (k_sum V (k_pc V))
  | 0, t, e => by
    have e' : t = k_pc V := by omega
    subst e'
    rw [f19_4L_eq]; unfold f19_4
    rw [H.1.2.2.2.2.2.2, if_neg (by rw [h6]; exact k_nlt (by omega) (by omega) (by omega))]
    rfl
  | d + 1, t, e => by
    rw [f19_4L_eq]; unfold f19_4
    rw [H.1.2.2.2.2.2.2, if_pos (by rw [h6]; exact (k_lt (by omega) (by omega)).2 (by omega)), if_pos ((k_inI (by omega)).2 (by omega)), k_nat (by omega), k_s1]
    show f19_4L s (c + 3) (k_sum V t + s (c + 5) t) (nI (t + 1)) = _
    rw [(H.2.2.2 t (by omega)).2]
    exact e19_4 H h6 hp d (t + 1) (by omega)
theorem e19 {s : g_S} {c n : Nat} {V : k_V} (hV : k_Vok n V) (H : k_CV s c V) : f19 s (c + 3) = some (V 7) := by
  unfold f19
  rw [hV.2.2.2.2.2.2.1]
  exact e19_4 H (k_pcI hV) (k_Vb hV).2.2 (k_pc V) 0 (by omega)
theorem c_put {s : g_S} {A : k_A} {o m : Int32} (hA : k_Aok A) (H : k_CI s A) : k_cop s (f107 s o m) (a_put A.2.2.2.1 o m).1 (k_sV A (a_put A.2.2.2.1 o m).2) := by
  have hV := hA.2.2.2.1
  have hb := k_Vb hV
  have hv := H.2.2.2.2.1
  have hW := v_put (o := o) (m := m) hV
  have bad : ¬ (k_wi o 0 5 ∧ k_wi m 0 999) → k_cop s (f107_10 s o m) (a_put A.2.2.2.1 o m).1 (k_sV A (a_put A.2.2.2.1 o m).2) := by
    intro h
    unfold f107_10 f107_11 a_put
    rw [if_neg h, e116f]
    exact ok_some ⟨rfl, H, fun _ _ => rfl⟩
  unfold f107
  rw [e118, k_bs]
  by_cases h1 : k_wi o 0 5
  · rw [k_ift h1, if_neg k_01, e118, k_bs]
    by_cases h2 : k_wi m 0 999
    · rw [k_ift h2, if_neg k_01]
      unfold f107_11 f18
      unfold a_put at hW ⊢
      rw [if_pos (show k_wi o 0 5 ∧ k_wi m 0 999 from ⟨h1, h2⟩)] at hW ⊢
      rw [e116t, k_tbl]
      have hc := k_pcI hV
      rw [show s 25 0 = nI (k_pc A.2.2.2.1) from hv.1.2.2.2.2.2.2.trans hc]
      by_cases h8 : k_pc A.2.2.2.1 = 20
      · rw [if_neg (by rw [h8]; decide), k_bd, if_pos rfl, if_pos h8]
        exact ok_some ⟨rfl, H, fun _ _ => rfl⟩
      · rw [if_neg h8] at hW ⊢
        have hin : m_in (nI (k_pc A.2.2.2.1)) 20 = true := (k_inI (by omega)).2 (by omega)
        have hn : (nI (k_pc A.2.2.2.1)).toNatClampNeg = k_pc A.2.2.2.1 := k_nat (by omega)
        have h25 : s 25 0 = nI (k_pc A.2.2.2.1) := hv.1.2.2.2.2.2.2.trans hc
        rw [if_pos (show nI (k_pc A.2.2.2.1) < 20 from (k_lt (b := 20) (by omega) (by omega)).2 (by omega))]
        simp (disch := omega) only [hin, hn, k_let, k_wq, if_true, h25, k_bd]
        rw [if_neg k_01]
        have hCV : k_CV (g_w (g_w (g_w s (25 + 1) (k_pc A.2.2.2.1) o) (25 + 2) (k_pc A.2.2.2.1) m) 25 0 (nI (k_pc A.2.2.2.1) + 1)) 22 (k_put A.2.2.2.1 (k_pc A.2.2.2.1) o m) := by
          refine ⟨⟨?_, ?_, ?_, ?_, ?_, ?_, ?_⟩, fun g hh => ?_, fun r i hq hi => ?_, fun p hp => ?_⟩
          · simp (disch := omega) only [k_wq, k_putn]; exact hv.1.1
          · simp (disch := omega) only [k_wq, k_putn]; exact hv.1.2.1
          · simp (disch := omega) only [k_wq, k_putn]; exact hv.1.2.2.1
          · simp (disch := omega) only [k_wq, k_putn]; exact hv.1.2.2.2.1
          · simp (disch := omega) only [k_wq, k_putn]; exact hv.1.2.2.2.2.1
          · simp (disch := omega) only [k_wq, k_putn]; exact hv.1.2.2.2.2.2.1
          · rw [k_put6, hc]; exact k_wv
          · have e0 : k_hc (k_put A.2.2.2.1 (k_pc A.2.2.2.1) o m) = k_hc A.2.2.2.1 := congrArg Int32.toNatClampNeg (k_putn (by omega) (by omega) (by omega))
            rw [e0] at hh
            exact k_CH_cg (by simp (disch := omega) only [k_wn]) (fun j _ _ => k_putn (by omega) (by omega) (by omega)) (hv.2.1 g hh)
          · have e5 : k_qc (k_put A.2.2.2.1 (k_pc A.2.2.2.1) o m) = k_qc A.2.2.2.1 := congrArg Int32.toNatClampNeg (k_putn (by omega) (by omega) (by omega))
            rw [e5] at hq
            simp (disch := omega) only [k_wn, k_putn]; exact hv.2.2.1 r i hq hi
          · rw [k_putp hV] at hp
            by_cases e : p = k_pc A.2.2.2.1
            · subst e
              rw [k_puto rfl, k_putm rfl]
              simp (disch := omega) only [k_wq]
              exact ⟨k_wv, k_wv⟩
            · simp (disch := omega) only [k_wq, k_putn]; exact hv.2.2.2 p (by omega)
        rw [e19 (c := 22) hW hCV, k_bs]
        refine ok_some ⟨rfl, k_CI_V hA (fun x h1 _ h2 => ?_) H hCV, fun y hy => ?_⟩ <;> dsimp only <;> simp (disch := omega) only [k_wn]
    · rw [k_iff h2, if_pos rfl]; exact bad (fun h => h2 h.2)
  · rw [k_iff h1, if_pos rfl]; exact bad (fun h => h1 h.1)
theorem m_put {TR : k_TR} {s : g_S} {A : k_A} {o m : Int32} (hA : k_Aok A) (H : k_MI TR s A) : k_mop TR k_cI s (f210 s o m) (a_put A.2.2.2.1 o m).1 (k_sV A (a_put A.2.2.2.1 o m).2) := by
  have hV := hA.2.2.2.1
  have hb := k_Vb hV
  have hv := H.2.2.2.1
  have bad : ¬ (k_wi o 0 5 ∧ k_wi m 0 999) → k_mop TR k_cI s (f210_14 (g_w s 199 0 0) o m) (a_put A.2.2.2.1 o m).1 (k_sV A (a_put A.2.2.2.1 o m).2) := by
    intro h
    unfold f210_14 f210_17 a_put
    rw [if_neg h, e134b k_00 k_01, k_bd, if_neg k_01]
    exact m_ref hA H rfl
  unfold f210
  rw [k_let, e135, k_bs]
  by_cases h1 : k_wi o 0 5
  · rw [k_ift h1, if_neg k_01, e135, k_bs]
    by_cases h2 : k_wi m 0 999
    · rw [k_ift h2, if_neg k_01]
      unfold f210_17 a_put
      rw [if_pos (show k_wi o 0 5 ∧ k_wi m 0 999 from ⟨h1, h2⟩)]
      have hc := k_pcI hV
      have h49 : s 199 49 = nI (k_pc A.2.2.2.1) := hv.1.2.2.2.2.2.2.1.trans hc
      rw [e134o k_00, k_bd, if_pos rfl, k_0n (by omega), h49]
      by_cases h8 : k_pc A.2.2.2.1 = 20
      · simp only [if_pos h8]; rw [if_pos (by rw [h8]; rfl)]
        exact m_ans hA H
      · simp only [if_neg h8]
        have hin : m_in (nI (k_pc A.2.2.2.1)) 20 = true := (k_inI (by omega)).2 (by omega)
        have hn : (nI (k_pc A.2.2.2.1)).toNatClampNeg = k_pc A.2.2.2.1 := k_nat (by omega)
        rw [if_neg (show ¬ nI (k_pc A.2.2.2.1) = 20 from fun e => h8 ((k_eq (b := 20) (by omega) (by omega)).1 e))]
        simp (disch := omega) only [hin, hn, k_let, k_wq, if_true, h49]
        rw [k_wv]
        refine ok_some ⟨k_MI_V hA (fun x b h1 h2 h3 h4 => ?_) H ⟨⟨?_, ?_, ?_, ?_, ?_, ?_, ?_, ?_⟩, fun h i hh hi => ?_, fun h hh => ?_, fun h f hh hf => ?_, fun r i hq hi => ?_, fun p hp => ?_⟩, fun y hy => ?_, fun w hw => ?_, fun e he => by cases he⟩
        · unfold k_sM at h3; unfold k_ch at h4; dsimp only; simp (disch := omega) only [k_wq]
        · dsimp only; simp (disch := omega) only [k_wq, k_putn]; exact hv.1.1
        · dsimp only; simp (disch := omega) only [k_wq, k_putn]; exact hv.1.2.1
        · dsimp only; simp (disch := omega) only [k_wq, k_putn]; exact hv.1.2.2.1
        · dsimp only; simp (disch := omega) only [k_wq, k_putn]; exact hv.1.2.2.2.1
        · dsimp only; simp (disch := omega) only [k_wq, k_putn]; exact hv.1.2.2.2.2.1
        · dsimp only; simp (disch := omega) only [k_wq, k_putn]; exact hv.1.2.2.2.2.2.1
        · dsimp only; simp (disch := omega) only [k_wq, k_wv, k_put6]; rw [hc]
        · dsimp only; simp (disch := omega) only [k_wq, k_wv, k_put7]; rw [hv.1.2.2.2.2.2.2.2]
        · dsimp only; simp (disch := omega) only [k_wq, k_putn]; exact hv.2.1 h i hh hi
        · dsimp only; simp (disch := omega) only [k_wq, k_putn]; exact hv.2.2.1 h hh
        · dsimp only; simp (disch := omega) only [k_wq, k_putn]; exact hv.2.2.2.1 h f hh hf
        · dsimp only; simp (disch := omega) only [k_wq, k_putn]; exact hv.2.2.2.2.1 r i hq hi
        · dsimp only
          by_cases e : p = k_pc A.2.2.2.1
          · subst e
            rw [k_puto rfl, k_putm rfl]
            simp (disch := omega) only [k_wq, k_wv]; exact ⟨trivial, trivial⟩
          · simp (disch := omega) only [k_wq, k_putn]; exact hv.2.2.2.2.2 p hp
        · dsimp only; simp (disch := omega) only [k_wn]
        · cases hw; refine ⟨?_, ?_⟩
          · dsimp only; simp (disch := omega) only [k_wq, k_wv]
          · dsimp only; rw [hv.1.2.2.2.2.2.2.2]
    · rw [k_iff h2, if_pos rfl]; exact bad (fun h => h2 h.2)
  · rw [k_iff h1, if_pos rfl]; exact bad (fun h => h1 h.1)
/-! holder -/
def k_hol (V : k_V) : Nat → Nat
  | 0 => 0
  | k + 1 => if 1 ≤ k ∧ ¬ V 3 < V (11 + 12 * k) then k else k_hol V k
def k_holder (V : k_V) : Int32 := if V 2 = -1 then -1 else nI (k_hol V (k_hc V))
theorem k_hol_s (V : k_V) (k : Nat) : k_hol V (k + 1) = if 1 ≤ k ∧ ¬ V 3 < V (11 + 12 * k) then k else k_hol V k := rfl
theorem k_hol_le (V : k_V) : ∀ n, k_hol V n ≤ n - 1
  | 0 => Nat.le_refl _
  | n + 1 => by
    unfold k_hol; split
    · omega
    · have := k_hol_le V n; omega
theorem e2_10 {s : g_S} {c : Nat} {V : k_V} (H : k_CV s c V) (h0 : V 0 = nI (k_hc V)) (hb : k_hc V ≤ 13) : ∀ d t, 1 ≤ t → t + d = k_hc V → f2_10L s c (nI (k_hol V t)) (nI t) = some (nI (k_hol V (k_hc V)))
  | 0, t, h1, e => by
    have e' : t = k_hc V := by omega
    subst e'
    rw [f2_10L_eq]; unfold f2_10
    rw [H.1.1, if_neg (by rw [h0]; exact k_nlt (by omega) (by omega) (by omega))]
    rfl
  | d + 1, t, h1, e => by
    rw [f2_10L_eq]; unfold f2_10
    obtain ⟨g1, _⟩ := H.2.1 t (by omega)
    rw [H.1.1, if_pos (by rw [h0]; exact (k_lt (by omega) (by omega)).2 (by omega)), if_pos (k_hin (by omega)), k_nat (by omega), k_s1, H.1.2.2.2.1, g1 1 (by omega), if_neg (show ¬ t = 0 by omega), show 10 + 12 * t + 1 = 11 + 12 * t by omega]
    have ih := e2_10 H h0 hb d (t + 1) (by omega) (by omega)
    rw [k_hol_s] at ih
    by_cases hd : V 3 < V (11 + 12 * t)
    · rw [if_pos hd]
      rw [if_neg (fun h => h.2 hd)] at ih
      unfold g_st
      exact ih
    · rw [if_neg hd]
      rw [if_pos ⟨h1, hd⟩] at ih
      unfold g_st
      exact ih
theorem e2 {s : g_S} {c n : Nat} {V : k_V} (hV : k_Vok n V) (H : k_CV s c V) : f2 s c = some (k_holder V) := by
  unfold f2 k_holder
  rw [H.1.2.2.1]
  by_cases h : V 2 = -1
  · rw [if_pos h, if_pos h]
  · rw [if_neg h, if_neg h]
    exact e2_10 H (k_hcI hV) (k_Vb hV).1 (k_hc V - 1) 1 (by omega) (by have := hV.1.2.1; omega)
theorem e179_11 {s : g_S} {V : k_V} (H : k_MV s V) (h0 : V 0 = nI (k_hc V)) (hb : k_hc V ≤ 13) (hh : V 2 ≠ -1) : ∀ d t, 1 ≤ t → t + d = k_hc V → ∀ x, (∀ y b, ¬ (y = 199 ∧ b = 34) → x y b = s y b) → x 199 34 = nI (k_hol V t) → ∃ u, f179_11L x (nI t) = some u ∧ u 199 34 = nI (k_hol V (k_hc V)) ∧ ∀ y b, ¬ (y = 199 ∧ b = 34) → u y b = s y b
  | 0, t, h1, e, x, hx, ht => by
    have e' : t = k_hc V := by omega
    subst e'
    rw [f179_11L_eq]; unfold f179_11
    rw [hx 199 26 (by omega), H.1.1, if_neg (by rw [h0]; exact k_nlt (by omega) (by omega) (by omega))]
    exact ⟨x, rfl, ht, hx⟩
  | d + 1, t, h1, e, x, hx, ht => by
    rw [f179_11L_eq]; unfold f179_11
    have g1 := H.2.1 t 1 (by omega) (by omega)
    rw [hx 199 26 (by omega), hx 199 28 (by omega), hx 199 29 (by omega), H.1.1, H.1.2.2.1, H.1.2.2.2.1, if_pos (by rw [h0]; exact (k_lt (by omega) (by omega)).2 (by omega)), if_neg hh, if_pos (k_hin (by omega)), k_nat (by omega), k_s1, hx _ _ (by omega), g1, show 10 + 12 * t + 1 = 11 + 12 * t by omega]
    have ih := e179_11 H h0 hb hh d (t + 1) (by omega) (by omega)
    rw [k_hol_s] at ih
    by_cases hd : V 3 < V (11 + 12 * t)
    · rw [if_pos hd]
      rw [if_neg (fun h => h.2 hd)] at ih
      exact ih x hx ht
    · rw [if_neg hd]
      rw [if_pos ⟨h1, hd⟩] at ih
      refine ih (g_w x 199 34 (nI t)) (fun y b h => ?_) k_wv
      rw [k_wq h]; exact hx y b h
theorem e179 {s : g_S} {n : Nat} {V : k_V} (hV : k_Vok n V) (H : k_MV s V) : ∃ u, f179 s = some u ∧ u 199 34 = k_holder V ∧ ∀ y b, ¬ (y = 199 ∧ b = 34) → u y b = s y b := by
  unfold f179 f179_8 k_holder
  have hb := k_Vb hV
  have h1 := hV.1.2.1
  rw [H.1.2.2.1]
  by_cases h : V 2 = -1
  · rw [if_pos h, if_pos h, k_let, f179_11L_eq]; unfold f179_11
    have hc : k_hc V ≤ 1 ∨ 1 < k_hc V := by omega
    rw [k_wq (by omega), H.1.1, k_hcI hV, k_wq (by omega), H.1.2.2.1, if_pos h]
    refine ⟨g_w s 199 34 (-1), ?_, k_wv, fun y b h => k_wq h⟩
    by_cases hc : 1 < k_hc V
    · rw [if_pos (show (1 : Int32) < nI (k_hc V) from (k_lt (a := 1) (by omega) (by omega)).2 hc)]; rfl
    · rw [if_neg (show ¬ (1 : Int32) < nI (k_hc V) from k_nlt (a := 1) (by omega) (by omega) hc)]; rfl
  · rw [if_neg h, if_neg h, k_let]
    exact e179_11 H (k_hcI hV) hb.1 h (k_hc V - 1) 1 (by omega) (by omega) _ (fun y b h => k_wq h) k_wv
theorem c_holder {s : g_S} {A : k_A} (hA : k_Aok A) (H : k_CI s A) : f90 s = some (k_holder A.2.2.2.1) := by
  unfold f90; rw [e2 hA.2.2.2.1 H.2.2.2.2.1]; rfl
theorem k_M0 {s : g_S} {V : k_V} (H : k_MV s V) : k_MV (g_w s 199 0 0) V := k_MV_cg H (k_eM_w k_eM_rfl (by unfold k_sM; omega))
/-- scratch of the model alone has changed -/
theorem m_scr {TR : k_TR} {s t : g_S} {A : k_A} {v : Int32} (hA : k_Aok A) (H : k_MI TR s A) (h : k_eM s t) : k_mov TR s (some (v, t)) v A := by
  refine ok_some ⟨k_MI_cg hA (fun x b h1 h2 h3 => h x b h3) H, fun y hy => funext fun b => h y b ?_, rfl⟩
  unfold k_sM; omega
theorem m_scr2 {TR : k_TR} {cd : Nat → Int32} {s t : g_S} {A : k_A} {v : Int32} (hA : k_Aok A) (H : k_MI TR s A) (h : k_eM s t) (h0 : t 199 0 = 0) : k_mop TR cd s (some (v, t)) (.inl v) A := by
  refine ok_some ⟨k_MI_cg hA (fun x b h1 h2 h3 => h x b h3) H, fun y hy => funext fun b => h y b ?_, fun w hw => by cases hw; exact ⟨h0, rfl⟩, fun e he => by cases he⟩
  unfold k_sM; omega
theorem m_holder {TR : k_TR} {s : g_S} {A : k_A} (hA : k_Aok A) (H : k_MI TR s A) : k_mov TR s (f183 s) (k_holder A.2.2.2.1) A := by
  unfold f183
  obtain ⟨u, e1, e2, e3⟩ := e179 hA.2.2.2.1 (k_M0 H.2.2.2.1)
  rw [k_let, e1, k_bs, e2]
  refine m_scr hA H (fun x b hx => ?_)
  unfold k_sM at hx
  rw [e3 x b (by omega), k_wq (by omega)]
/-! fault, count -/
theorem m_fault {TR : k_TR} {s : g_S} {A : k_A} (hA : k_Aok A) (H : k_MI TR s A) : k_mov TR s (f166 s) A.2.1 A := by
  unfold f166
  rw [k_let, k_0n (by omega), H.1.2.2.1]
  exact m_scr hA H (k_eM_w k_eM_rfl (by unfold k_sM; omega))
theorem c_fault {s : g_S} {A : k_A} (H : k_CI s A) : f80 s = some A.2.1 := by unfold f80; rw [H.1.2.2.1]
def a_count (A : k_A) (w : Int32) : Int32 :=
  if w = 0 then nI A.2.2.1.length else if w = 1 then A.2.2.2.1 0 else if w = 2 then A.2.2.2.1 5 else if w = 3 then A.2.2.2.1 7 else if w = 4 then A.2.2.2.1 6 else if w = 5 then nI A.2.2.2.2.length else if w = 6 then nI A.1.1 else if w = 7 then A.2.2.2.1 1 else -1
theorem c_count {s : g_S} {A : k_A} {w : Int32} (hA : k_Aok A) (H : k_CI s A) : f115 s w = some (a_count A w) := by
  have hv := H.2.2.2.2.1
  unfold f115 a_count
  rw [H.1.1, H.1.2.1, H.1.2.2.2, hv.1.1, hv.1.2.1, hv.1.2.2.2.2.2.1, show s 25 0 = A.2.2.2.1 6 from hv.1.2.2.2.2.2.2, show f19 s 25 = _ from e19 (c := 22) hA.2.2.2.1 hv, k_bs]
  repeat' split
  all_goals rfl
theorem m_count {TR : k_TR} {s : g_S} {A : k_A} {w : Int32} (hA : k_Aok A) (H : k_MI TR s A) : k_mov TR s (f221 s w) (a_count A w) A := by
  have hv := H.2.2.2.1
  unfold f221 a_count
  rw [k_let]
  simp (disch := omega) only [k_0n, H.1.1, H.1.2.1, H.1.2.2.2, hv.1.1, hv.1.2.1, hv.1.2.2.2.2.2.1, hv.1.2.2.2.2.2.2.1, hv.1.2.2.2.2.2.2.2]
  repeat' split
  all_goals exact m_scr hA H (k_eM_w k_eM_rfl (by unfold k_sM; omega))
/-! one chain set to another -/
theorem k_CH_cp {s u : g_S} {x y h : Nat} {V : k_V} (hu : ∀ i, i < 8 → u y i = s x i) (H : k_CH s x h V) : k_CH u y h V := by
  obtain ⟨h1, h2, h3, m, hm, h4, h5⟩ := H
  exact ⟨fun i hi => by rw [hu i (by omega)]; exact h1 i hi, by rw [hu 5 (by omega)]; exact h2, by rw [hu 6 (by omega)]; exact h3, m, hm, by rw [hu 7 (by omega)]; exact h4, h5⟩
theorem e24 {s : g_S} {y x : Nat} (hxy : x ≠ y) : ∃ u, f24 s y x = some u ∧ (∀ i, i < 8 → u y i = s x i) ∧ ∀ z, z ≠ y → u z = s z := by
  unfold f24
  simp (disch := omega) only [k_let, k_wn]
  refine ⟨_, rfl, fun i hi => ?_, fun z hz => ?_⟩
  · match i, hi with
    | 0, _ => simp (disch := omega) only [k_wq, k_wv]
    | 1, _ => simp (disch := omega) only [k_wq, k_wv]
    | 2, _ => simp (disch := omega) only [k_wq, k_wv]
    | 3, _ => simp (disch := omega) only [k_wq, k_wv]
    | 4, _ => simp (disch := omega) only [k_wq, k_wv]
    | 5, _ => simp (disch := omega) only [k_wq, k_wv]
    | 6, _ => simp (disch := omega) only [k_wq, k_wv]
    | 7, _ => simp (disch := omega) only [k_wq, k_wv]
  · simp (disch := omega) only [k_wn]
theorem e76 {s : g_S} {y x : Nat} (hxy : x ≠ y) : ∃ u, f76 s y x = some u ∧ (∀ i, i < 3 → u y i = s x i) ∧ ∀ z, z ≠ y → u z = s z := by
  unfold f76
  simp (disch := omega) only [k_let, k_wn]
  refine ⟨_, rfl, fun i hi => ?_, fun z hz => ?_⟩
  · match i, hi with
    | 0, _ => simp (disch := omega) only [k_wq, k_wv]
    | 1, _ => simp (disch := omega) only [k_wq, k_wv]
    | 2, _ => simp (disch := omega) only [k_wq, k_wv]
  · simp (disch := omega) only [k_wn]
theorem e1_34 {s t : g_S} {c0 c1 : Nat} {V : k_V} (H : k_CV s c1 V) (b5 : k_qc V ≤ 8) (b6 : k_pc V ≤ 20) (hd : c0 + 27 ≤ c1 ∨ c1 + 27 ≤ c0) (ht : ∀ x, (x < c0 ∨ c0 + 27 ≤ x) → t x = s x)
    (h1 : ∀ h, h < k_hc V → k_CH t (c0 + 6 + h) h V) (h2 : ∀ q i, q < k_qc V → i < 3 → t (c0 + 19 + q) i = V (170 + 3 * q + i)) :
    ∃ u, f1_34 t c0 c1 = some u ∧ k_CV u c0 V ∧ ∀ x, (x < c0 ∨ c0 + 27 ≤ x) → u x = s x := by
  obtain ⟨⟨a1, a2, a3, a4, a5, a6, a7⟩, _, _, a8⟩ := H
  have e1 : t c1 = s c1 := ht _ (by omega)
  have e3 : t (c1 + 3) = s (c1 + 3) := ht _ (by omega)
  have e4 : t (c1 + 4) = s (c1 + 4) := ht _ (by omega)
  have e5 : t (c1 + 5) = s (c1 + 5) := ht _ (by omega)
  unfold f1_34 f17
  rw [k_let, if_pos (by decide), k_let, if_pos (by decide), k_let, k_bs]
  rw [show c0 + 3 + 1 = c0 + 4 from rfl, show c0 + 3 + 2 = c0 + 5 from rfl, show c1 + 3 + 1 = c1 + 4 from rfl, show c1 + 3 + 2 = c1 + 5 from rfl]
  simp (disch := omega) only [k_let, k_wn, k_wan, e1, e3, e4, e5]
  rw [a1, a2, a3, a4, a5, a6, a7]
  refine ⟨_, rfl, ⟨⟨?_, ?_, ?_, ?_, ?_, ?_, ?_⟩, fun h hh => ?_, fun q i hq hi => ?_, fun p hp => ?_⟩, fun x hx => ?_⟩
  · simp (disch := omega) only [k_wq, k_wv]
  · simp (disch := omega) only [k_wq, k_wv]
  · simp (disch := omega) only [k_wq, k_wv]
  · simp (disch := omega) only [k_wq, k_wv]
  · simp (disch := omega) only [k_wq, k_wv]
  · simp (disch := omega) only [k_wq, k_wv]
  · simp (disch := omega) only [k_wn, k_wan]; exact k_wv
  · refine k_CH_cg ?_ (fun _ _ _ => rfl) (h1 h hh)
    simp (disch := omega) only [k_wn, k_wan]
  · simp (disch := omega) only [k_wn, k_wan]; exact h2 q i hq hi
  · simp (disch := omega) only [k_wn, k_wan, k_wae]
    unfold va_cpy
    rw [if_pos (by omega), if_pos (by omega)]
    simp only [Nat.sub_zero, Nat.zero_add]
    exact a8 p hp
  · simp (disch := omega) only [k_wn, k_wan]; exact ht x hx
theorem e1_19 {s : g_S} {c0 c1 : Nat} {V : k_V} (H : k_CV s c1 V) (h5 : V 5 = nI (k_qc V)) (b5 : k_qc V ≤ 8) (b6 : k_pc V ≤ 20) (b0 : k_hc V ≤ 13) (hd : c0 + 27 ≤ c1 ∨ c1 + 27 ≤ c0) : ∀ d n t, n + d = k_qc V →
    (∀ x, (x < c0 ∨ c0 + 27 ≤ x) → t x = s x) → (∀ h, h < k_hc V → k_CH t (c0 + 6 + h) h V) → (∀ q i, q < n → i < 3 → t (c0 + 19 + q) i = V (170 + 3 * q + i)) →
    ∃ u, f1_19L t c0 c1 (nI n) = some u ∧ k_CV u c0 V ∧ ∀ x, (x < c0 ∨ c0 + 27 ≤ x) → u x = s x
  | 0, n, t, e, ht, h1, h2 => by
    have e' : n = k_qc V := by omega
    subst e'
    rw [f1_19L_eq]; unfold f1_19
    rw [ht c1 (by omega), H.1.2.2.2.2.2.1, if_neg (by rw [h5]; exact k_nlt (by omega) (by omega) (by omega))]
    obtain ⟨u, q1, q2⟩ := e1_34 H b5 b6 hd ht h1 h2
    rw [q1]
    exact ⟨u, rfl, q2⟩
  | d + 1, n, t, e, ht, h1, h2 => by
    rw [f1_19L_eq]; unfold f1_19
    rw [ht c1 (by omega), H.1.2.2.2.2.2.1, if_pos (by rw [h5]; exact (k_lt (by omega) (by omega)).2 (by omega)), if_pos ((k_inI (by omega)).2 (by omega)), k_nat (by omega)]
    obtain ⟨u, q1, q2, q3⟩ := e76 (s := t) (y := c0 + 19 + n) (x := c1 + 19 + n) (by omega)
    rw [q1, k_bs, k_s1]
    refine e1_19 H h5 b5 b6 b0 hd d (n + 1) u (by omega) (fun x hx => ?_) (fun h hh => ?_) (fun q i hq hi => ?_)
    · rw [q3 x (by omega)]; exact ht x hx
    · exact k_CH_cg (q3 _ (by omega)) (fun _ _ _ => rfl) (h1 h hh)
    · by_cases e : q = n
      · subst e
        rw [q2 i hi, ht _ (by omega)]; exact H.2.2.1 q i (by omega) hi
      · rw [q3 _ (by omega)]; exact h2 q i (by omega) hi
theorem e1_2 {s : g_S} {c0 c1 m : Nat} {V : k_V} (H : k_CV s c1 V) (hV : k_Vok m V) (hd : c0 + 27 ≤ c1 ∨ c1 + 27 ≤ c0) : ∀ d n t, n + d = k_hc V →
    (∀ x, (x < c0 ∨ c0 + 27 ≤ x) → t x = s x) → (∀ h, h < n → k_CH t (c0 + 6 + h) h V) →
    ∃ u, f1_2L t c0 c1 (nI n) = some u ∧ k_CV u c0 V ∧ ∀ x, (x < c0 ∨ c0 + 27 ≤ x) → u x = s x
  | 0, n, t, e, ht, h1 => by
    have hb := k_Vb hV
    have e' : n = k_hc V := by omega
    subst e'
    rw [f1_2L_eq]; unfold f1_2
    rw [ht c1 (by omega), H.1.1, if_neg (by rw [k_hcI hV]; exact k_nlt (by omega) (by omega) (by omega))]
    obtain ⟨u, q1, q2⟩ := e1_19 H (k_qcI hV) hb.2.1 hb.2.2 hb.1 hd (k_qc V) 0 t (by omega) ht h1 (fun _ _ h _ => absurd h (by omega))
    rw [show (0 : Int32) = nI 0 from rfl, q1]
    exact ⟨u, rfl, q2⟩
  | d + 1, n, t, e, ht, h1 => by
    have hb := k_Vb hV
    rw [f1_2L_eq]; unfold f1_2
    rw [ht c1 (by omega), H.1.1, if_pos (by rw [k_hcI hV]; exact (k_lt (by omega) (by omega)).2 (by omega)), if_pos (k_hin (by omega)), k_nat (by omega)]
    obtain ⟨u, q1, q2, q3⟩ := e24 (s := t) (y := c0 + 6 + n) (x := c1 + 6 + n) (by omega)
    rw [q1, k_bs, k_s1]
    refine e1_2 H hV hd d (n + 1) u (by omega) (fun x hx => ?_) (fun h hh => ?_)
    · rw [q3 x (by omega)]; exact ht x hx
    · by_cases e : h = n
      · subst e
        refine k_CH_cp (fun i hi => ?_) (H.2.1 h (by omega))
        rw [q2 i hi, ht _ (by omega)]
      · exact k_CH_cg (q3 _ (by omega)) (fun _ _ _ => rfl) (h1 h (by omega))
theorem e1 {s : g_S} {c0 c1 m : Nat} {V : k_V} (H : k_CV s c1 V) (hV : k_Vok m V) (hd : c0 + 27 ≤ c1 ∨ c1 + 27 ≤ c0) :
    ∃ u, f1 s c0 c1 = some u ∧ k_CV u c0 V ∧ ∀ x, (x < c0 ∨ c0 + 27 ≤ x) → u x = s x := by
  unfold f1
  exact e1_2 H hV hd (k_hc V) 0 s (by omega) (fun _ _ => rfl) (fun _ h => absurd h (by omega))
/-! a question told -/
def k_tq (V : k_V) (q h o b h0 d0 : Int32) : k_V :=
  if q = 4 then upd V 2 (if b = 0 then h0 else o) else if q = 5 then upd V 3 (if b = 0 then d0 else o) else upd V (17 + 12 * h.toNatClampNeg + q.toNatClampNeg) b
theorem v_tq {n : Nat} {V : k_V} {q h o b h0 d0 : Int32} (H : k_Vok n V) (hb : m_isb b = true) (hq : k_wi q 0 5) (hh : q < 4 → k_wi h 0 (V 0 - 1)) (h4 : q = 4 → k_wi o 0 5) (h5 : q = 5 → k_wi o 0 999) (g0 : k_wi h0 (-1) 5) (g1 : k_wi d0 0 999) : k_Vok n (k_tq V q h o b h0 d0) := by
  have hwk : k_wi o 0 5 → k_wi o (-1) 5 := fun h => (k_wm (n := 6) (by omega)).2 (Or.inr h)
  unfold k_tq
  by_cases e4 : q = 4
  · rw [if_pos e4]
    refine k_Vok_f H (fun j hj => k_un (by omega)) H.2.2.2.2.2.2.2.2.2.2.2.1 ?_ H.2.2.2.2.1 H.2.2.2.2.2.1
    rw [k_ue]; split
    · exact g0
    · exact hwk (h4 e4)
  · rw [if_neg e4]
    by_cases e5 : q = 5
    · rw [if_pos e5]
      refine k_Vok_f H (fun j hj => k_un (by omega)) H.2.2.2.2.2.2.2.2.2.2.2.1 H.2.2.2.1 ?_ H.2.2.2.2.2.1
      rw [k_ue]; split
      · exact g1
      · exact h5 e5
    · rw [if_neg e5]
      have h3 : k_wi q 0 3 := ((k_wi4.1 hq).elim id (fun h => absurd h (by rintro (h | h); exact e4 h; exact e5 h)))
      obtain ⟨i, hi, rfl⟩ := k_iL 3 h3 rfl (by omega)
      obtain ⟨k, hk, hk3, rfl⟩ := k_hx H (hh (k_wi3l h3).1)
      rw [k_nat (by omega), k_nat (by omega)]
      exact k_Vok_b H hk3 (by omega) hb
theorem e8 {s : g_S} {c x c3 n : Nat} {V : k_V} {q h o b h0 d0 : Int32} (hV : k_Vok n V) (H : k_CV s c V) (hb : m_isb b = true) (hq : k_wi q 0 5) (hh : q < 4 → k_wi h 0 (V 0 - 1))
    (x0 : s x 0 = q) (x1 : s x 1 = h) (x2 : s x 2 = o) (x3 : s c3 3 = h0) (x4 : s c3 4 = d0) :
    ∃ u, f8 s c x b c3 = some u ∧ k_CV u c (k_tq V q h o b h0 d0) ∧ ∀ y, y ≠ c → ¬ (c + 6 ≤ y ∧ y < c + 19) → u y = s y := by
  have hbd := k_Vb hV
  unfold f8 k_tq
  rw [x0, x1, x2, x3, x4]
  by_cases e4 : q = 4
  · rw [if_pos e4, if_pos e4]
    have key : ∀ v, ∃ u, f8_12 s c x b c3 v = some u ∧ k_CV u c (upd V 2 v) ∧ ∀ y, y ≠ c → ¬ (c + 6 ≤ y ∧ y < c + 19) → u y = s y := by
      intro v
      refine ⟨g_w s c 3 v, rfl, k_CV_mk H hbd.1 hbd.2.1 rfl rfl rfl (fun j hj => k_un (by omega)) (fun x h1 h2 => k_wn (by omega)) ?_, fun y h1 _ => k_wn h1⟩
      exact ⟨by rw [k_wq (by omega), H.1.1]; rfl, by rw [k_wq (by omega), H.1.2.1]; rfl, by rw [k_wv]; rfl, by rw [k_wq (by omega), H.1.2.2.2.1]; rfl, by rw [k_wq (by omega), H.1.2.2.2.2.1]; rfl, by rw [k_wq (by omega), H.1.2.2.2.2.2.1]; rfl⟩
    by_cases eb : b = 0
    · rw [if_pos eb, if_pos eb]; exact key h0
    · rw [if_neg eb, if_neg eb]; exact key o
  · rw [if_neg e4, if_neg e4]
    by_cases e5 : q = 5
    · rw [if_pos e5, if_pos e5]
      have key : ∀ v, ∃ u, f8_26 s c x b c3 v = some u ∧ k_CV u c (upd V 3 v) ∧ ∀ y, y ≠ c → ¬ (c + 6 ≤ y ∧ y < c + 19) → u y = s y := by
        intro v
        refine ⟨g_w s c 4 v, rfl, k_CV_mk H hbd.1 hbd.2.1 rfl rfl rfl (fun j hj => k_un (by omega)) (fun x h1 h2 => k_wn (by omega)) ?_, fun y h1 _ => k_wn h1⟩
        exact ⟨by rw [k_wq (by omega), H.1.1]; rfl, by rw [k_wq (by omega), H.1.2.1]; rfl, by rw [k_wq (by omega), H.1.2.2.1]; rfl, by rw [k_wv]; rfl, by rw [k_wq (by omega), H.1.2.2.2.2.1]; rfl, by rw [k_wq (by omega), H.1.2.2.2.2.2.1]; rfl⟩
      by_cases eb : b = 0
      · rw [if_pos eb, if_pos eb]; exact key d0
      · rw [if_neg eb, if_neg eb]; exact key o
    · rw [if_neg e5, if_neg e5]
      have h3 : k_wi q 0 3 := ((k_wi4.1 hq).elim id (fun h => absurd h (by rintro (h | h); exact e4 h; exact e5 h)))
      obtain ⟨i, hi, rfl⟩ := k_iL 3 h3 rfl (by omega)
      obtain ⟨k, hk, hk3, rfl⟩ := k_hx hV (hh (k_wi3l h3).1)
      rw [e118, k_ift (show k_wi (nI k) 0 12 from k_iC (n := 12) (by omega) (by omega)), k_bs, if_neg k_01, if_pos (k_hin hk3), k_nat (by omega), k_nat (by omega)]
      obtain ⟨m, hm, q1, q2, q3⟩ := k_tell (H.2.1 k hk) (f := i) (by omega) hb
      rw [q1]
      refine ⟨_, rfl, k_CV_hand H hbd.1 hbd.2.1 hk (fun j hj => k_un (by omega)) (fun x h1 h2 h3 => k_wn (by omega)) q2, fun y _ hy => k_wn (by omega)⟩
