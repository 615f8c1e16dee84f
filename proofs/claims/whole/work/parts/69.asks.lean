/-! THE END of the model -/
def w_k_HA (TR : w_k_TR) : Prop := ∀ (s : g_S) (l N : Nat) (L : w_q_L) (k h t : Int32), l < 4 → N ≤ 500 → s 206 l = nI N → TR (s (202 + l)) N L → w_k_wi k 0 5 → w_k_wi h 0 5 → w_k_wi t 0 3 →
  ∃ u, f168 s (nI l) k h t = some u ∧ (∀ x b, ¬ (x = 199 ∧ (b = 2 ∨ (4 ≤ b ∧ b ≤ 8) ∨ (15 ≤ b ∧ b ≤ 25))) → u x b = s x b) ∧ u 199 21 = w_q_b (w_q_holds L 0 k h (s 207)) ∧ u 199 22 = w_q_b (w_q_holds L 1 k h (s 207)) ∧
    u 199 19 = w_q_owed L k (s 207) ∧ u 199 24 = w_q_b (w_q_lets L k t) ∧ u 199 25 = w_q_b (w_q_twice L k) ∧ u 199 20 = L.2 + 1
def w_k_ML (TR : w_k_TR) (s : g_S) (p : Int32) (L : w_q_L) : Prop := w_q_ok L ∧ ((p = -1 ∧ L = w_q_no) ∨ ∃ l N, p = nI l ∧ l < 4 ∧ N ≤ 500 ∧ s 206 l = nI N ∧ TR (s (202 + l)) N L)
theorem w_k_ML_cg {TR : w_k_TR} {s t : g_S} {p : Int32} {L : w_q_L} (H : w_k_ML TR s p L) (h : ∀ x, 202 ≤ x → x ≤ 206 → t x = s x) : w_k_ML TR t p L := by
  obtain ⟨h0, H | ⟨l, N, h1, h2, h3, h4, h5⟩⟩ := H
  · exact ⟨h0, Or.inl H⟩
  · exact ⟨h0, Or.inr ⟨l, N, h1, h2, h3, by rw [h 206 (by omega) (by omega)]; exact h4, by rw [h (202 + l) (by omega) (by omega)]; exact h5⟩⟩
theorem w_k_ne1 {l : Nat} (h : l < 2147483648) : ¬ nI l = -1 := fun e => by
  have h1 := congrArg Int32.toInt e
  rw [w_k_nI h] at h1
  have h2 : (-1 : Int32).toInt = -1 := rfl
  omega
section EM
variable {TR : w_k_TR} {s : g_S} {V : w_k_V} {L : w_q_L} {n : Nat} {p : Int32}
theorem w_e168 (HA : w_k_HA TR) (H : w_k_ML TR s p L) {k h t : Int32} (hk : w_k_wi k 0 5) (hh : w_k_wi h 0 5) (ht : w_k_wi t 0 3) :
    ∃ u, f168 s p k h t = some u ∧ (∀ x b, ¬ (x = 199 ∧ (b = 2 ∨ (4 ≤ b ∧ b ≤ 8) ∨ (15 ≤ b ∧ b ≤ 25))) → u x b = s x b) ∧ u 199 21 = w_q_b (w_q_holds L 0 k h (s 207)) ∧ u 199 22 = w_q_b (w_q_holds L 1 k h (s 207)) ∧
    u 199 19 = w_q_owed L k (s 207) ∧ u 199 24 = w_q_b (w_q_lets L k t) ∧ u 199 25 = w_q_b (w_q_twice L k) ∧ u 199 20 = L.2 + 1 := by
  obtain ⟨h0, ⟨rfl, rfl⟩ | ⟨l, N, rfl, h2, h3, h4, h5⟩⟩ := H
  · unfold f168
    simp only [w_k_let, if_true]
    refine ⟨_, rfl, fun x b hx => ?_, ?_, ?_, ?_, ?_, ?_, ?_⟩
    · simp (disch := omega) only [w_k_wq]
    · simp (disch := omega) only [w_k_wq, w_k_wv]; rfl
    · simp (disch := omega) only [w_k_wq, w_k_wv]; rfl
    · simp (disch := omega) only [w_k_wq, w_k_wv]; rfl
    · simp (disch := omega) only [w_k_wq, w_k_wv]; rfl
    · simp (disch := omega) only [w_k_wq, w_k_wv]; rfl
    · simp (disch := omega) only [w_k_wq, w_k_wv]; rfl
  · exact HA s l N L k h t h2 h3 h4 h5 hk hh ht
def w_k_sE (x b : Nat) : Prop := x = 207 ∨ (238 ≤ x ∧ x ≤ 244) ∨ (246 ≤ x ∧ x ≤ 258) ∨ (x = 199 ∧ (b = 34 ∨ b = 2 ∨ (4 ≤ b ∧ b ≤ 8) ∨ (15 ≤ b ∧ b ≤ 25)))
theorem w_e180 {t : g_S} {k : Nat} (hV : w_k_Vok n V) (h34 : t 199 34 = nI (w_o_hol V)) (hk : k ≤ w_o_hol V) (h4 : t (209 + k) 4 = V (14 + 12 * k)) : f180 t (nI k) = some (if k < w_o_hol V ∧ V (14 + 12 * k) = 0 then 1 else 0) := by
  have hh := w_o_hol_lt hV
  unfold f180
  rw [h34, w_k_nat (by omega)]
  by_cases e : k = w_o_hol V
  · rw [if_pos (by rw [e]), if_neg (fun h => absurd h.1 (by omega))]
  · rw [if_neg (fun h => e ((w_k_eq (by omega) (by omega)).1 h)), if_pos (w_k_hin (by omega)), h4]
    by_cases g : V (14 + 12 * k) = 0
    · rw [if_pos g, if_pos ⟨by omega, g⟩]
    · rw [if_neg g, if_neg (fun h => g h.2)]
theorem w_e181 (HA : w_k_HA TR) (hV : w_k_Vok n V) {t : g_S} (hon : V 2 ≠ -1) (H : w_k_ML TR t p L) (hM : w_k_MV t V) (h34 : t 199 34 = nI (w_o_hol V)) {k : Nat} (hk1 : 1 ≤ k) (hk : k ≤ w_o_hol V) :
    ∃ u, f181 t (nI k) p = some u ∧ (∀ i, i < 8 → u 207 i = w_o_nm V L k i) ∧ ∀ x b, ¬ (x = 207 ∨ (x = 199 ∧ (b = 2 ∨ (4 ≤ b ∧ b ≤ 8) ∨ (15 ≤ b ∧ b ≤ 25)))) → u x b = t x b := by
  have hh := w_o_hol_lt hV
  have hb := w_k_Vb hV
  obtain ⟨w1, w2, w3⟩ := hV.2.2.2.2.2.2.2.1 k hk1 (by omega)
  have hwh : w_k_wi (V 2) 0 5 := ((w_k_wm (n := 6) (by omega)).1 hV.2.2.2.1).resolve_left hon
  have x0 : t (209 + k) 0 = V (10 + 12 * k) := hM.2.1 k 0 (by omega) (by omega)
  have x1 : t (209 + k) 1 = V (11 + 12 * k) := (hM.2.1 k 1 (by omega) (by omega)).trans (congrArg V (by omega))
  have x2 : t (209 + k) 2 = V (12 + 12 * k) := (hM.2.1 k 2 (by omega) (by omega)).trans (congrArg V (by omega))
  have x3 : t (209 + k) 3 = V (13 + 12 * k) := (hM.2.1 k 3 (by omega) (by omega)).trans (congrArg V (by omega))
  have x4 : t (209 + k) 4 = V (14 + 12 * k) := (hM.2.1 k 4 (by omega) (by omega)).trans (congrArg V (by omega))
  have xf : ∀ i, i < 4 → t (225 + k) i = V (17 + 12 * k + i) := fun i hi => hM.2.2.2.1 k i (by omega) hi
  have xb : ∀ i, i < 4 → V (17 + 12 * k + i) = 0 ∨ V (17 + 12 * k + i) = 1 := fun i hi => w_k_isb (hV.2.2.2.2.2.2.2.2.1 k i (by omega) hi)
  unfold f181
  rw [if_pos (w_k_hin (by omega)), w_k_nat (by omega), x0, x3, hM.1.2.2.1]
  obtain ⟨u, p1, p2, _, _, _, p6, _, _⟩ := w_e168 (h := V 2) HA H w1 hwh w3
  rw [p1, w_k_bs, p6]
  have in13 : m_in (nI k) 13 = true := w_k_hin (by omega)
  have n13 : (nI k).toNatClampNeg = k := w_k_nat (by omega)
  have uf : ∀ i, u (225 + k) i = t (225 + k) i := fun i => p2 _ _ (by omega)
  have uh : ∀ i, u (209 + k) i = t (209 + k) i := fun i => p2 _ _ (by omega)
  have en5 : w_o_nm V L k 5 = if w_q_lets L (V (10 + 12 * k)) (V (13 + 12 * k)) = true then V (13 + 12 * k) else 0 := rfl
  have en4 : w_o_nm V L k 4 = if k < w_o_hol V ∧ V (14 + 12 * k) = 0 then 1 else 0 := rfl
  have en3 : w_o_nm V L k 3 = if V (12 + 12 * k) < V 3 then 1 else 0 := rfl
  have h102 : ∀ (z : g_S) (w : Int32), (∀ x, x ≠ 207 → z x = u x) → w = w_o_nm V L k 5 → (∀ i, i < 5 → z 207 i = w_o_nm V L k i) → ∃ y, f181_102 z (nI k) p w = some y ∧ (∀ i, i < 8 → y 207 i = w_o_nm V L k i) ∧ ∀ x, x ≠ 207 → y x = u x := by
    intro z w hz hw h5
    unfold f181_102
    simp (disch := omega) only [w_k_let, in13, n13, if_true, w_k_wn, hz 199 (by omega), hz (209 + k) (by omega), uh, x1, p2 199 27 (by omega), p2 199 29 (by omega), hM.1.2.1, hM.1.2.2.2.1]
    refine ⟨_, rfl, fun i hi => ?_, fun x hx => ?_⟩
    · by_cases w_e7 : i = 7
      · subst w_e7; rw [w_k_wv]; rfl
      · rw [w_k_wq (by omega)]
        by_cases e6 : i = 6
        · subst e6; rw [w_k_wv]; rfl
        · rw [w_k_wq (by omega)]
          by_cases w_e5 : i = 5
          · subst w_e5; rw [w_k_wv, hw]
          · rw [w_k_wq (by omega)]; exact h5 i (by omega)
    · simp (disch := omega) only [w_k_wn]; exact hz x hx
  have h88 : ∀ (z : g_S) (w : Int32), (∀ x, x ≠ 207 → z x = u x) → w = w_o_nm V L k 4 → (∀ i, i < 4 → z 207 i = w_o_nm V L k i) → ∃ y, f181_88 z (nI k) p (w_q_b (w_q_lets L (V (10 + 12 * k)) (V (13 + 12 * k)))) w = some y ∧ (∀ i, i < 8 → y 207 i = w_o_nm V L k i) ∧ ∀ x, x ≠ 207 → y x = u x := by
    intro z w hz hw h4
    have h4' : ∀ i, i < 5 → g_w z 207 4 w 207 i = w_o_nm V L k i := fun i hi => by
      by_cases e : i = 4
      · subst e; rw [w_k_wv, hw]
      · rw [w_k_wq (by omega)]; exact h4 i (by omega)
    unfold f181_88
    rw [w_k_let]
    cases hl : w_q_lets L (V (10 + 12 * k)) (V (13 + 12 * k)) with
    | false =>
      rw [if_pos (show w_q_b false = 0 from rfl)]
      exact h102 _ _ (fun x hx => by rw [w_k_wn hx, hz x hx]) (by rw [en5, hl]; rfl) h4'
    | true =>
      rw [if_neg (by decide), if_pos in13, n13, w_k_wn (by omega), hz _ (by omega), uh, x3]
      exact h102 _ _ (fun x hx => by rw [w_k_wn hx, hz x hx]) (by rw [en5, hl, if_pos rfl]) h4'
  have h77 : ∀ (z : g_S) (w : Int32), (∀ x, x ≠ 207 → z x = u x) → w = w_o_nm V L k 3 → (∀ i, i < 3 → z 207 i = w_o_nm V L k i) → ∃ y, f181_77 z (nI k) p (w_q_b (w_q_lets L (V (10 + 12 * k)) (V (13 + 12 * k)))) w = some y ∧ (∀ i, i < 8 → y 207 i = w_o_nm V L k i) ∧ ∀ x, x ≠ 207 → y x = u x := by
    intro z w hz hw h4
    have h4' : ∀ i, i < 4 → g_w z 207 3 w 207 i = w_o_nm V L k i := fun i hi => by
      by_cases e : i = 3
      · subst e; rw [w_k_wv, hw]
      · rw [w_k_wq (by omega)]; exact h4 i (by omega)
    unfold f181_77
    have hf : ∀ x, x ≠ 207 → g_w z 207 3 w x = u x := fun x hx => by rw [w_k_wn hx, hz x hx]
    rw [w_k_let, w_e180 hV (by rw [hf 199 (by omega), p2 199 34 (by omega), h34]) hk (by rw [hf _ (by omega), uh, x4]), w_k_bs]
    by_cases g : k < w_o_hol V ∧ V (14 + 12 * k) = 0
    · rw [if_pos g, if_neg w_k_01]
      exact h88 _ _ hf (by rw [en4, if_pos g]) h4'
    · rw [if_neg g, if_pos rfl]
      exact h88 _ _ hf (by rw [en4, if_neg g]) h4'
  have h61 : ∀ (z : g_S) (w : Int32), (∀ x, x ≠ 207 → z x = u x) → w = V (17 + 12 * k + 2) → (∀ i, i < 2 → z 207 i = V (17 + 12 * k + i)) → ∃ y, f181_61 z (nI k) p (w_q_b (w_q_lets L (V (10 + 12 * k)) (V (13 + 12 * k)))) w = some y ∧ (∀ i, i < 8 → y 207 i = w_o_nm V L k i) ∧ ∀ x, x ≠ 207 → y x = u x := by
    intro z w hz hw h4
    have h4' : ∀ i, i < 3 → g_w z 207 2 w 207 i = w_o_nm V L k i := fun i hi => by
      have : w_o_nm V L k i = V (17 + 12 * k + i) := by unfold w_o_nm; rw [if_pos hi]
      rw [this]
      by_cases e : i = 2
      · subst e; rw [w_k_wv, hw]
      · rw [w_k_wq (by omega)]; exact h4 i (by omega)
    unfold f181_61
    have hf : ∀ x, x ≠ 207 → g_w z 207 2 w x = u x := fun x hx => by rw [w_k_wn hx, hz x hx]
    rw [w_k_let, if_pos in13, n13, hf _ (by omega), uh, x2, hf 199 (by omega), p2 199 29 (by omega), hM.1.2.2.2.1]
    by_cases g : V (12 + 12 * k) < V 3
    · rw [if_pos g]; exact h77 _ _ hf (by rw [en3, if_pos g]) h4'
    · rw [if_neg g]; exact h77 _ _ hf (by rw [en3, if_neg g]) h4'
  have h47 : ∀ (z : g_S) (w : Int32), (∀ x, x ≠ 207 → z x = u x) → w = V (17 + 12 * k + 1) → z 207 0 = V (17 + 12 * k) → ∃ y, f181_47 z (nI k) p (w_q_b (w_q_lets L (V (10 + 12 * k)) (V (13 + 12 * k)))) w = some y ∧ (∀ i, i < 8 → y 207 i = w_o_nm V L k i) ∧ ∀ x, x ≠ 207 → y x = u x := by
    intro z w hz hw h4
    have hf : ∀ x, x ≠ 207 → g_w z 207 1 w x = u x := fun x hx => by rw [w_k_wn hx, hz x hx]
    have h4' : ∀ i, i < 2 → g_w z 207 1 w 207 i = V (17 + 12 * k + i) := fun i hi => by
      match i, hi with
      | 0, _ => rw [w_k_wq (by omega)]; exact h4
      | 1, _ => rw [w_k_wv, hw]
    unfold f181_47
    rw [w_k_let, if_pos in13, n13, hf _ (by omega), uf, xf 2 (by omega)]
    rcases xb 2 (by omega) with e | e
    · rw [if_pos e]; exact h61 _ _ hf e.symm h4'
    · rw [if_neg (by rw [e]; decide)]; exact h61 _ _ hf e.symm h4'
  have h33 : ∀ (w : Int32), w = V (17 + 12 * k) → ∃ y, f181_33 u (nI k) p (w_q_b (w_q_lets L (V (10 + 12 * k)) (V (13 + 12 * k)))) w = some y ∧ (∀ i, i < 8 → y 207 i = w_o_nm V L k i) ∧ ∀ x, x ≠ 207 → y x = u x := by
    intro w hw
    have hf : ∀ x, x ≠ 207 → g_w u 207 0 w x = u x := fun x hx => by rw [w_k_wn hx]
    unfold f181_33
    rw [w_k_let, if_pos in13, n13, hf _ (by omega), uf, xf 1 (by omega)]
    rcases xb 1 (by omega) with e | e
    · rw [if_pos e]; exact h47 _ _ hf e.symm (by rw [w_k_wv, hw])
    · rw [if_neg (by rw [e]; decide)]; exact h47 _ _ hf e.symm (by rw [w_k_wv, hw])
  have fin : ∃ y, (if u (225 + k) 0 = 0 then f181_33 u (nI k) p (w_q_b (w_q_lets L (V (10 + 12 * k)) (V (13 + 12 * k)))) 0 else f181_33 u (nI k) p (w_q_b (w_q_lets L (V (10 + 12 * k)) (V (13 + 12 * k)))) 1) = some y ∧ (∀ i, i < 8 → y 207 i = w_o_nm V L k i) ∧ ∀ x, x ≠ 207 → y x = u x := by
    rw [uf, xf 0 (by omega)]
    rcases xb 0 (by omega) with e | e
    · rw [if_pos e]; exact h33 _ e.symm
    · rw [if_neg (by rw [e]; decide)]; exact h33 _ e.symm
  obtain ⟨y, q1, q2, q3⟩ := fin
  exact ⟨y, q1, q2, fun x b hx => by rw [q3 x (by omega), p2 x b (by omega)]⟩
end EM
section EM2
variable {TR : w_k_TR} {s : g_S} {V : w_k_V} {L : w_q_L} {n : Nat} {p : Int32}
def w_o_oath1 (V : w_k_V) (L : w_q_L) (k : Nat) : Bool := w_o_sw V L k && !w_o_ans V L k
theorem w_o_claim2 {V : w_k_V} {L : w_q_L} {k : Nat} : w_o_claim1 V L k = if (w_o_ans V L k || (w_o_sw V L k && decide (V (20 + 12 * k) = 0))) = true then w_q_owed L (V (10 + 12 * k)) (w_o_nm V L k) else 0 := by
  unfold w_o_claim1 w_o_must1
  cases w_o_ans V L k <;> cases w_o_sw V L k <;> cases decide (V (20 + 12 * k) = 0) <;> rfl
theorem w_e182_76 (HA : w_k_HA TR) (hV : w_k_Vok n V) {t : g_S} (hon : V 2 ≠ -1) (H : w_k_ML TR t p L) (hM : w_k_MV t V) (h34 : t 199 34 = nI (w_o_hol V)) {k : Nat} (hk1 : 1 ≤ k) (hk : k ≤ w_o_hol V) (hn : ∀ i, i < 8 → t 207 i = w_o_nm V L k i) :
    ∃ u, f182_76 t p (nI k) = some (.inl (nI (k + 1), u)) ∧ u 238 k = w_o_claim1 V L k ∧ u 239 k = w_o_whom1 V k ∧ u 243 k = w_q_b (w_o_oath1 V L k) ∧ u 244 k = w_q_b (w_q_twice L (V (10 + 12 * k))) ∧
      ∀ x b, ¬ ((x = 238 ∧ b = k) ∨ (x = 239 ∧ b = k) ∨ (x = 243 ∧ b = k) ∨ (x = 244 ∧ b = k) ∨ (x = 199 ∧ (b = 2 ∨ (4 ≤ b ∧ b ≤ 8) ∨ (15 ≤ b ∧ b ≤ 25)))) → u x b = t x b := by
  have hh := w_o_hol_lt hV
  have hb := w_k_Vb hV
  obtain ⟨w1, w2, w3⟩ := hV.2.2.2.2.2.2.2.1 k hk1 (by omega)
  have hwh : w_k_wi (V 2) 0 5 := ((w_k_wm (n := 6) (by omega)).1 hV.2.2.2.1).resolve_left hon
  have x0 : t (209 + k) 0 = V (10 + 12 * k) := hM.2.1 k 0 (by omega) (by omega)
  have in13 : m_in (nI k) 13 = true := w_k_hin (by omega)
  have n13 : (nI k).toNatClampNeg = k := w_k_nat (by omega)
  unfold f182_76
  rw [if_pos in13, n13, x0, hM.1.2.2.1]
  obtain ⟨u, p1, p2, p3, p4, p5, _, p7, _⟩ := w_e168 (t := 0) (h := V 2) HA H w1 hwh (by decide)
  have qa : w_q_holds L 0 (V (10 + 12 * k)) (V 2) (t 207) = w_o_ans V L k := w_q_holds_cg hn H.1
  have qs : w_q_holds L 1 (V (10 + 12 * k)) (V 2) (t 207) = w_o_sw V L k := w_q_holds_cg hn H.1
  have qo : w_q_owed L (V (10 + 12 * k)) (t 207) = w_q_owed L (V (10 + 12 * k)) (w_o_nm V L k) := w_q_owed_cg hn H.1
  rw [qa] at p3
  rw [qs] at p4
  rw [qo] at p5
  rw [p1, w_k_bs, p3, p4]
  -- whom
  have h145 : ∀ (z : g_S) (w : Int32), w = w_o_whom1 V k → z 238 k = w_o_claim1 V L k → z 243 k = w_q_b (w_o_oath1 V L k) → z 244 k = w_q_b (w_q_twice L (V (10 + 12 * k))) → (∀ x b, ¬ ((x = 238 ∧ b = k) ∨ (x = 243 ∧ b = k) ∨ (x = 244 ∧ b = k)) → z x b = u x b) →
      ∃ y, f182_145 z p (nI k) (nI k) w = some (.inl (nI (k + 1), y)) ∧ y 238 k = w_o_claim1 V L k ∧ y 239 k = w_o_whom1 V k ∧ y 243 k = w_q_b (w_o_oath1 V L k) ∧ y 244 k = w_q_b (w_q_twice L (V (10 + 12 * k))) ∧
      ∀ x b, ¬ ((x = 238 ∧ b = k) ∨ (x = 239 ∧ b = k) ∨ (x = 243 ∧ b = k) ∨ (x = 244 ∧ b = k) ∨ (x = 199 ∧ (b = 2 ∨ (4 ≤ b ∧ b ≤ 8) ∨ (15 ≤ b ∧ b ≤ 25)))) → y x b = t x b := by
    intro z w hw h1 h2 h3 h4
    unfold f182_145
    rw [if_pos in13, n13, w_k_let, w_k_s1]
    refine ⟨_, rfl, ?_, ?_, ?_, ?_, fun x b hx => ?_⟩
    · rw [w_k_wq (by omega), h1]
    · rw [w_k_wv, hw]
    · rw [w_k_wq (by omega), h2]
    · rw [w_k_wq (by omega), h3]
    · rw [w_k_wq (by omega), h4 x b (by omega), p2 x b (by omega)]
  have h127 : ∀ (z : g_S) (w : Int32), w = w_o_claim1 V L k → z 243 k = w_q_b (w_o_oath1 V L k) → z 244 k = w_q_b (w_q_twice L (V (10 + 12 * k))) → (∀ x b, ¬ ((x = 243 ∧ b = k) ∨ (x = 244 ∧ b = k)) → z x b = u x b) →
      ∃ y, f182_127 z p (nI k) (nI k) w = some (.inl (nI (k + 1), y)) ∧ y 238 k = w_o_claim1 V L k ∧ y 239 k = w_o_whom1 V k ∧ y 243 k = w_q_b (w_o_oath1 V L k) ∧ y 244 k = w_q_b (w_q_twice L (V (10 + 12 * k))) ∧
      ∀ x b, ¬ ((x = 238 ∧ b = k) ∨ (x = 239 ∧ b = k) ∨ (x = 243 ∧ b = k) ∨ (x = 244 ∧ b = k) ∨ (x = 199 ∧ (b = 2 ∨ (4 ≤ b ∧ b ≤ 8) ∨ (15 ≤ b ∧ b ≤ 25)))) → y x b = t x b := by
    intro z w hw h2 h3 h4
    unfold f182_127
    rw [if_pos in13, n13, w_k_let]
    have g1 : g_w z 238 k w 238 k = w_o_claim1 V L k := by rw [w_k_wv, hw]
    have g2 : g_w z 238 k w 243 k = w_q_b (w_o_oath1 V L k) := by rw [w_k_wq (by omega), h2]
    have g3 : g_w z 238 k w 244 k = w_q_b (w_q_twice L (V (10 + 12 * k))) := by rw [w_k_wq (by omega), h3]
    have g4 : ∀ x b, ¬ ((x = 238 ∧ b = k) ∨ (x = 243 ∧ b = k) ∨ (x = 244 ∧ b = k)) → g_w z 238 k w x b = u x b := fun x b hx => by rw [w_k_wq (by omega), h4 x b (by omega)]
    obtain ⟨j, rfl⟩ : ∃ j, k = j + 1 := ⟨k - 1, by omega⟩
    by_cases hj : 1 < j + 1
    · rw [if_pos (show (1 : Int32) < nI (j + 1) from (w_k_lt (a := 1) (by omega) (by omega)).2 hj), w_k_m1, w_e180 (V := V) hV (by rw [g4 199 34 (by omega), p2 199 34 (by omega), h34]) (by omega) (by rw [g4 (209 + j) 4 (by omega), p2 (209 + j) 4 (by omega), hM.2.1 j 4 (by omega) (by omega)]; congr 1; omega), w_k_bs]
      by_cases g : V (2 + 12 * (j + 1)) = 0
      · rw [if_pos (show j < w_o_hol V ∧ V (14 + 12 * j) = 0 from ⟨by omega, by rw [show 14 + 12 * j = 2 + 12 * (j + 1) by omega]; exact g⟩), if_neg w_k_01]
        exact h145 _ _ (by unfold w_o_whom1; rw [if_pos ⟨hj, g⟩]) g1 g2 g3 g4
      · rw [if_neg (show ¬ (j < w_o_hol V ∧ V (14 + 12 * j) = 0) from fun e => g (by rw [show 2 + 12 * (j + 1) = 14 + 12 * j by omega]; exact e.2)), if_pos rfl]
        unfold f182_142
        rw [w_k_m1]
        exact h145 _ _ (by unfold w_o_whom1; rw [if_neg (fun e => g e.2)]; rfl) g1 g2 g3 g4
    · rw [if_neg (show ¬ (1 : Int32) < nI (j + 1) from w_k_nlt (a := 1) (by omega) (by omega) hj)]
      unfold f182_142
      rw [w_k_m1]
      exact h145 _ _ (by unfold w_o_whom1; rw [if_neg (fun e => hj e.1)]; rfl) g1 g2 g3 g4
  have h100 : ∀ (w : Bool), w = w_o_oath1 V L k → ∃ y, f182_100 u p (nI k) (nI k) (w_q_b w) = some (.inl (nI (k + 1), y)) ∧ y 238 k = w_o_claim1 V L k ∧ y 239 k = w_o_whom1 V k ∧ y 243 k = w_q_b (w_o_oath1 V L k) ∧ y 244 k = w_q_b (w_q_twice L (V (10 + 12 * k))) ∧
      ∀ x b, ¬ ((x = 238 ∧ b = k) ∨ (x = 239 ∧ b = k) ∨ (x = 243 ∧ b = k) ∨ (x = 244 ∧ b = k) ∨ (x = 199 ∧ (b = 2 ∨ (4 ≤ b ∧ b ≤ 8) ∨ (15 ≤ b ∧ b ≤ 25)))) → y x b = t x b := by
    intro w hw
    unfold f182_100
    rw [if_pos in13, if_pos w_k_isq, n13, w_k_let, if_pos in13, w_k_wn (by omega), p7, if_pos w_k_isq, w_k_let, w_k_wn (by omega), w_k_wn (by omega), p3, p4, w_k_wn (by omega), w_k_wn (by omega)]
    have g2 : g_w (g_w u 243 k (w_q_b w)) 244 k (w_q_b (w_q_twice L (V (10 + 12 * k)))) 243 k = w_q_b (w_o_oath1 V L k) := by rw [w_k_wq (by omega), w_k_wv, hw]
    have g3 : g_w (g_w u 243 k (w_q_b w)) 244 k (w_q_b (w_q_twice L (V (10 + 12 * k)))) 244 k = w_q_b (w_q_twice L (V (10 + 12 * k))) := w_k_wv
    have g4 : ∀ x b, ¬ ((x = 243 ∧ b = k) ∨ (x = 244 ∧ b = k)) → g_w (g_w u 243 k (w_q_b w)) 244 k (w_q_b (w_q_twice L (V (10 + 12 * k)))) x b = u x b := fun x b hx => by rw [w_k_wq (by omega), w_k_wq (by omega)]
    have x3 : u (225 + k) 3 = V (20 + 12 * k) := by rw [p2 _ _ (by omega), hM.2.2.2.1 k 3 (by omega) (by omega)]; congr 1; omega
    have h123 : (w_o_ans V L k || (w_o_sw V L k && decide (V (20 + 12 * k) = 0))) = true → ∃ y, f182_123 (g_w (g_w u 243 k (w_q_b w)) 244 k (w_q_b (w_q_twice L (V (10 + 12 * k))))) p (nI k) (nI k) = some (.inl (nI (k + 1), y)) ∧ y 238 k = w_o_claim1 V L k ∧ y 239 k = w_o_whom1 V k ∧ y 243 k = w_q_b (w_o_oath1 V L k) ∧ y 244 k = w_q_b (w_q_twice L (V (10 + 12 * k))) ∧
      ∀ x b, ¬ ((x = 238 ∧ b = k) ∨ (x = 239 ∧ b = k) ∨ (x = 243 ∧ b = k) ∨ (x = 244 ∧ b = k) ∨ (x = 199 ∧ (b = 2 ∨ (4 ≤ b ∧ b ≤ 8) ∨ (15 ≤ b ∧ b ≤ 25)))) → y x b = t x b := by
      intro hy
      unfold f182_123
      exact h127 _ _ (by rw [g4 199 19 (by omega), p5, w_o_claim2, if_pos hy]) g2 g3 g4
    have h126 : (w_o_ans V L k || (w_o_sw V L k && decide (V (20 + 12 * k) = 0))) = false → ∃ y, f182_126 (g_w (g_w u 243 k (w_q_b w)) 244 k (w_q_b (w_q_twice L (V (10 + 12 * k))))) p (nI k) (nI k) = some (.inl (nI (k + 1), y)) ∧ y 238 k = w_o_claim1 V L k ∧ y 239 k = w_o_whom1 V k ∧ y 243 k = w_q_b (w_o_oath1 V L k) ∧ y 244 k = w_q_b (w_q_twice L (V (10 + 12 * k))) ∧
      ∀ x b, ¬ ((x = 238 ∧ b = k) ∨ (x = 239 ∧ b = k) ∨ (x = 243 ∧ b = k) ∨ (x = 244 ∧ b = k) ∨ (x = 199 ∧ (b = 2 ∨ (4 ≤ b ∧ b ≤ 8) ∨ (15 ≤ b ∧ b ≤ 25)))) → y x b = t x b := by
      intro hy
      unfold f182_126
      exact h127 _ _ (by rw [w_o_claim2, hy]; rfl) g2 g3 g4
    rw [x3]
    cases ha : w_o_ans V L k with
    | true =>
      rw [if_neg (by decide)]
      exact h123 (by rw [ha]; rfl)
    | false =>
      rw [if_pos (show w_q_b false = 0 from rfl)]
      cases hs : w_o_sw V L k with
      | false =>
        rw [if_pos (show w_q_b false = 0 from rfl)]
        exact h126 (by rw [ha, hs]; rfl)
      | true =>
        rw [if_neg (by decide)]
        by_cases h0 : V (20 + 12 * k) = 0
        · rw [if_pos h0]; exact h123 (by rw [hs, decide_eq_true h0, ha]; rfl)
        · rw [if_neg h0]; exact h126 (by rw [hs, decide_eq_false h0, ha]; rfl)
  unfold f182_99
  cases hs : w_o_sw V L k with
  | false =>
    rw [if_pos (show w_q_b false = 0 from rfl)]
    exact h100 false (by unfold w_o_oath1; rw [hs]; rfl)
  | true =>
    rw [if_neg (by decide)]
    cases ha : w_o_ans V L k with
    | false =>
      rw [if_pos (show w_q_b false = 0 from rfl)]
      exact h100 true (by unfold w_o_oath1; rw [hs, ha]; rfl)
    | true =>
      rw [if_neg (by decide)]
      exact h100 false (by unfold w_o_oath1; rw [hs, ha]; rfl)
theorem w_e182_61 (HA : w_k_HA TR) (hV : w_k_Vok n V) {t0 : g_S} (hon : V 2 ≠ -1) (H : w_k_ML TR t0 p L) (hM : w_k_MV t0 V) (h34 : t0 199 34 = nI (w_o_hol V)) {k : Nat} (hk1 : 1 ≤ k) (hk : k ≤ w_o_hol V) (hn : ∀ i, i < 8 → t0 207 i = w_o_nm V L k i) :
    ∀ (d i : Nat) (t : g_S), i + d = 8 → (∀ x, x ≠ 246 + k → t x = t0 x) → (∀ j, j < i → t (246 + k) j = w_o_nm V L k j) →
    ∃ u, f182_61L t p (nI k) (nI i) = some (.inl (nI (k + 1), u)) ∧ u 238 k = w_o_claim1 V L k ∧ u 239 k = w_o_whom1 V k ∧ u 243 k = w_q_b (w_o_oath1 V L k) ∧ u 244 k = w_q_b (w_q_twice L (V (10 + 12 * k))) ∧ (∀ j, j < 8 → u (246 + k) j = w_o_nm V L k j) ∧
      ∀ x b, ¬ (x = 246 + k ∨ (x = 238 ∧ b = k) ∨ (x = 239 ∧ b = k) ∨ (x = 243 ∧ b = k) ∨ (x = 244 ∧ b = k) ∨ (x = 199 ∧ (b = 2 ∨ (4 ≤ b ∧ b ≤ 8) ∨ (15 ≤ b ∧ b ≤ 25)))) → u x b = t0 x b
  | 0, i, t, e, h1, h2 => by
    have hh := w_o_hol_lt hV
    have e' : i = 8 := by omega
    subst e'
    rw [f182_61L_eq]; unfold f182_61
    rw [if_neg (by decide)]
    have hMt : w_k_MV t V := w_k_MV_mk hM (fun _ _ => rfl) (fun x g1 g2 => h1 x (by omega)) (by rw [h1 199 (by omega)]; exact hM.1)
    obtain ⟨u, q1, q2, q3, q4, q5, q6⟩ := w_e182_76 HA hV hon (w_k_ML_cg H (fun x g1 g2 => h1 x (by omega))) hMt (by rw [h1 199 (by omega)]; exact h34) hk1 hk (fun i hi => by rw [h1 207 (by omega)]; exact hn i hi)
    rw [q1]
    refine ⟨u, rfl, q2, q3, q4, q5, fun j hj => by rw [q6 _ _ (by omega)]; exact h2 j hj, fun x b hx => by rw [q6 x b (by omega), h1 x (by omega)]⟩
  | d + 1, i, t, e, h1, h2 => by
    have hh := w_o_hol_lt hV
    rw [f182_61L_eq]; unfold f182_61
    rw [if_pos (show nI i < 8 from (w_k_lt (b := 8) (by omega) (by omega)).2 (by omega)), if_pos (w_k_hin (by omega)), if_pos ((w_k_inI (by omega)).2 (by omega)), w_k_nat (by omega), w_k_nat (by omega), w_k_let, w_k_s1, h1 207 (by omega), hn i (by omega)]
    refine w_e182_61 HA hV hon H hM h34 hk1 hk hn d (i + 1) _ (by omega) (fun x hx => by dsimp only; rw [w_k_wn hx, h1 x hx]) (fun j hj => ?_)
    dsimp only
    by_cases e : j = i
    · subst e; rw [w_k_wv]
    · rw [w_k_wq (by omega)]; exact h2 j (by omega)
end EM2
