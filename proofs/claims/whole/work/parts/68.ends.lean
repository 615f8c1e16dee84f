section EC3
variable {s : g_S} {c l : Nat} {V : w_k_V} {L : w_q_L} {n : Nat}
theorem w_e13 {t0 : g_S} (hV : w_k_Vok n V) (H : w_k_CV t0 c V) (hc : c = 22 ∨ c = 49) (h78 : ∀ k, 1 ≤ k → k ≤ w_o_hol V → t0 78 k = w_o_claim1 V L k) (h79 : ∀ k, 1 ≤ k → k ≤ w_o_hol V → t0 79 k = w_o_whom1 V k) :
    ∀ (k : Nat) (x : w_o_PG) (t : g_S), k ≤ w_o_hol V → (∀ y, y ≠ 80 → y ≠ 83 → t y = t0 y) → (∀ j, j < 13 → t 80 j = x.1 j ∧ t 83 j = x.2 j) →
      ∃ u, f13_3L t c (nI k) = some u ∧ (∀ y, y ≠ 80 → y ≠ 83 → u y = t0 y) ∧ (∀ j, j < 13 → u 80 j = (w_o_up V L k x).1 j ∧ u 83 j = (w_o_up V L k x).2 j)
  | 0, x, t, hk, h1, h2 => by
    rw [f13_3L_eq]; unfold f13_3
    rw [if_pos (by decide)]
    exact ⟨t, rfl, h1, h2⟩
  | k + 1, x, t, hk, h1, h2 => by
    have hb := w_k_Vb hV
    have hh := w_o_hol_lt hV
    rw [f13_3L_eq]; unfold f13_3
    have hp5 : t (c + 6 + (k + 1)) 5 = V (15 + 12 * (k + 1)) := by rw [h1 _ (by omega) (by omega)]; exact (H.2.1 (k + 1) (by omega)).2.1
    rw [if_neg (show ¬ nI (k + 1) < 1 from w_k_nlt (b := 1) (by omega) (by omega) (by omega)), if_pos (w_k_hin (by omega)), w_k_nat (by omega), w_k_let, w_k_p1, w_k_wn (by omega), h1 78 (by omega) (by omega), h78 (k + 1) (by omega) hk, h1 79 (by omega) (by omega), h79 (k + 1) (by omega) hk, hp5, (h2 (k + 1) (by omega)).2]
    obtain ⟨j, hj, ej⟩ := w_o_whom_n (V := V) (k := k + 1) (by omega)
    show ∃ u : g_S, _ = some u ∧ _ ∧ (∀ j, j < 13 → u 80 j = (w_o_up V L k (w_o_up1 V L (k + 1) x)).1 j ∧ u 83 j = (w_o_up V L k (w_o_up1 V L (k + 1) x)).2 j)
    by_cases hw : 0 < w_o_whom1 V (k + 1)
    · rw [if_pos hw]
      rw [ej] at hw ⊢
      rw [if_pos (w_k_hin (by omega)), w_k_nat (by omega), w_k_wn (by omega), w_k_wv]
      refine w_e13 hV H hc h78 h79 k _ _ (by omega) (fun y h3 h4 => by dsimp only; rw [w_k_wn h4, w_k_wn h3, h1 y h3 h4]) (fun i hi => ?_)
      unfold w_o_up1
      dsimp only
      rw [ej, if_pos hw, w_k_nat (by omega)]
      constructor
      · rw [w_k_wn (by omega)]
        by_cases e : i = k + 1
        · subst e; rw [w_k_wv, w_k_ue]
        · rw [w_k_wq (by omega), w_k_un e]; exact (h2 i hi).1
      · by_cases e : i = j
        · subst e; rw [w_k_wv, w_k_ue, (h2 i hi).2]
        · rw [w_k_wq (by omega), w_k_un e, w_k_wn (by omega)]; exact (h2 i hi).2
    · rw [if_neg hw]
      refine w_e13 hV H hc h78 h79 k _ _ (by omega) (fun y h3 h4 => by dsimp only; rw [w_k_wn h3, h1 y h3 h4]) (fun i hi => ?_)
      unfold w_o_up1
      dsimp only
      rw [if_neg hw]
      constructor
      · by_cases e : i = k + 1
        · subst e; rw [w_k_wv, w_k_ue]
        · rw [w_k_wq (by omega), w_k_un e]; exact (h2 i hi).1
      · rw [w_k_wn (by omega)]; exact (h2 i hi).2
theorem w_e14 {t0 : g_S} (hV : w_k_Vok n V) (x : (Nat → Int32) × Int32) (h7 : t0 77 7 = nI (w_o_hol V)) (h79 : ∀ k, 1 ≤ k → k ≤ w_o_hol V → t0 79 k = w_o_whom1 V k) :
    ∀ (d k : Nat) (t : g_S), k + d = w_o_hol V → (∀ y, y ≠ 80 → y ≠ 83 → t y = t0 y) → (∀ j, j < 13 → t 80 j = (w_o_own V k x).1 j) → t 83 0 = (w_o_own V k x).2 → (∀ j, j ≠ 0 → t 83 j = t0 83 j) →
      ∃ u, f14_2L t (V 1) (nI (k + 1)) = some u ∧ (∀ y, y ≠ 80 → y ≠ 83 → u y = t0 y) ∧ (∀ j, j < 13 → u 80 j = (w_o_own V (w_o_hol V) x).1 j) ∧ u 83 0 = (w_o_own V (w_o_hol V) x).2 ∧ (∀ j, j ≠ 0 → u 83 j = t0 83 j)
  | 0, k, t, hk, h1, h2, h3, h4 => by
    have hh := w_o_hol_lt hV
    have e' : k = w_o_hol V := by omega
    subst e'
    rw [f14_2L_eq]; unfold f14_2
    rw [h1 77 (by omega) (by omega), h7, if_pos ((w_k_lt (by omega) (by omega)).2 (by omega))]
    exact ⟨t, rfl, h1, h2, h3, h4⟩
  | d + 1, k, t, hk, h1, h2, h3, h4 => by
    have hh := w_o_hol_lt hV
    rw [f14_2L_eq]; unfold f14_2
    rw [h1 77 (by omega) (by omega), h7, if_neg (w_k_nlt (by omega) (by omega) (by omega)), if_pos (w_k_hin (by omega)), w_k_nat (by omega), h1 79 (by omega) (by omega), h79 (k + 1) (by omega) (by omega), w_k_s1]
    have eo : w_o_own V (k + 1) x = if w_o_whom1 V (k + 1) = 0 then (upd (w_o_own V k x).1 (k + 1) (g_min ((w_o_own V k x).1 (k + 1)) (V 1 - (w_o_own V k x).2)), (w_o_own V k x).2 + g_min ((w_o_own V k x).1 (k + 1)) (V 1 - (w_o_own V k x).2)) else w_o_own V k x := rfl
    by_cases hw : w_o_whom1 V (k + 1) = 0
    · rw [if_pos hw]
      rw [if_pos hw] at eo
      rw [w_k_let, w_k_let, w_k_wn (by omega), w_k_wv, h3, h2 (k + 1) (by omega)]
      refine w_e14 hV x h7 h79 d (k + 1) _ (by omega) (fun y h5 h6 => by dsimp only; rw [w_k_wn h6, w_k_wn h5, h1 y h5 h6]) (fun j hj => ?_) ?_ (fun j hj => ?_)
      · rw [eo]; dsimp only; rw [w_k_wn (by omega)]
        by_cases e : j = k + 1
        · subst e; rw [w_k_wv, w_k_ue]
        · rw [w_k_wq (by omega), w_k_un e]; exact h2 j hj
      · rw [eo]; dsimp only; rw [w_k_wv]
      · dsimp only; rw [w_k_wq (by omega), w_k_wn (by omega)]; exact h4 j hj
    · rw [if_neg hw]
      rw [if_neg hw] at eo
      exact w_e14 hV x h7 h79 d (k + 1) t (by omega) h1 (by rw [eo]; exact h2) (by rw [eo]; exact h3) h4
theorem w_e10_44 {t0 : g_S} (hV : w_k_Vok n V) (h7 : t0 77 7 = nI (w_o_hol V)) : ∀ (d k : Nat) (t : g_S), k + d = w_o_hol V → (∀ y, y ≠ 81 → t y = t0 y) → (∀ j, j < 13 → t 81 j = if 1 ≤ j ∧ j ≤ k then t0 80 j - t0 83 j else t0 81 j) →
      ∃ u, f10_44L t c l (nI (k + 1)) = some u ∧ (∀ y, y ≠ 81 → u y = t0 y) ∧ (∀ j, j < 13 → u 81 j = if 1 ≤ j ∧ j ≤ w_o_hol V then t0 80 j - t0 83 j else t0 81 j)
  | 0, k, t, hk, h1, h2 => by
    have hh := w_o_hol_lt hV
    have e' : k = w_o_hol V := by omega
    subst e'
    rw [f10_44L_eq]; unfold f10_44
    rw [h1 77 (by omega), h7, if_pos ((w_k_lt (by omega) (by omega)).2 (by omega))]
    exact ⟨t, rfl, h1, h2⟩
  | d + 1, k, t, hk, h1, h2 => by
    have hh := w_o_hol_lt hV
    rw [f10_44L_eq]; unfold f10_44
    rw [h1 77 (by omega), h7, if_neg (w_k_nlt (by omega) (by omega) (by omega)), if_pos (w_k_hin (by omega)), w_k_nat (by omega), w_k_let, h1 80 (by omega), h1 83 (by omega), w_k_s1]
    refine w_e10_44 hV h7 d (k + 1) _ (by omega) (fun y hy => by dsimp only; rw [w_k_wn hy, h1 y hy]) (fun j hj => ?_)
    dsimp only
    by_cases e : j = k + 1
    · subst e; rw [w_k_wv, if_pos (by omega)]
    · rw [w_k_wq (by omega), h2 j hj]
      by_cases g : 1 ≤ j ∧ j ≤ k
      · rw [if_pos g, if_pos (by omega)]
      · rw [if_neg g, if_neg (by omega)]
def w_o_CE (u : g_S) (V : w_k_V) (L : w_q_L) : Prop := u 77 7 = w_k_holder V ∧ ∀ k, k < 13 → u 78 k = w_o_claim V L k ∧ u 79 k = w_o_whom V k ∧ u 80 k = w_o_pays V L k ∧ u 81 k = w_o_bears V L k ∧ u 82 k = w_q_b (w_o_must V L k)
theorem w_o_up_0 {V : w_k_V} {L : w_q_L} : ∀ (k : Nat) (x : w_o_PG), (w_o_up V L k x).2 0 = x.2 0
  | 0, x => rfl
  | k + 1, x => by
    show (w_o_up V L k (w_o_up1 V L (k + 1) x)).2 0 = _
    rw [w_o_up_0 k]
    unfold w_o_up1
    dsimp only
    by_cases h : 0 < w_o_whom1 V (k + 1)
    · rw [if_pos h]
      obtain ⟨j, hj, ej⟩ := w_o_whom_n (V := V) (k := k + 1) (by omega)
      rw [w_k_un]
      intro e
      rw [ej] at h e
      by_cases hk : k < 2147483647
      · rw [w_k_nat (by omega)] at e
        rw [← e] at h
        exact absurd h (by decide)
      · rw [← Int32.toNat_toInt] at e
        rw [Int32.lt_iff_toInt_lt] at h
        have h0 : (0 : Int32).toInt = 0 := rfl
        omega
    · rw [if_neg h]
theorem w_o_up_hi {V : w_k_V} {L : w_q_L} : ∀ (k : Nat) (x : w_o_PG) (j : Nat), k < j → j < 13 → (w_o_up V L k x).1 j = x.1 j
  | 0, x, j, _, _ => rfl
  | k + 1, x, j, h, h2 => by
    show (w_o_up V L k (w_o_up1 V L (k + 1) x)).1 j = _
    rw [w_o_up_hi k _ j (by omega) h2]
    unfold w_o_up1
    dsimp only
    rw [w_k_un (by omega)]
theorem w_o_own_hi {V : w_k_V} : ∀ (k : Nat) (x : (Nat → Int32) × Int32) (j : Nat), k < j → (w_o_own V k x).1 j = x.1 j
  | 0, x, j, _ => rfl
  | k + 1, x, j, h => by
    have eo : w_o_own V (k + 1) x = if w_o_whom1 V (k + 1) = 0 then (upd (w_o_own V k x).1 (k + 1) (g_min ((w_o_own V k x).1 (k + 1)) (V 1 - (w_o_own V k x).2)), (w_o_own V k x).2 + g_min ((w_o_own V k x).1 (k + 1)) (V 1 - (w_o_own V k x).2)) else w_o_own V k x := rfl
    rw [eo]; split
    · dsimp only; rw [w_k_un (by omega), w_o_own_hi k x j (by omega)]
    · exact w_o_own_hi k x j (by omega)
theorem w_o_own_0 {V : w_k_V} : ∀ (k : Nat) (x : (Nat → Int32) × Int32), (w_o_own V k x).1 0 = x.1 0
  | 0, x => rfl
  | k + 1, x => by
    have eo : w_o_own V (k + 1) x = if w_o_whom1 V (k + 1) = 0 then (upd (w_o_own V k x).1 (k + 1) (g_min ((w_o_own V k x).1 (k + 1)) (V 1 - (w_o_own V k x).2)), (w_o_own V k x).2 + g_min ((w_o_own V k x).1 (k + 1)) (V 1 - (w_o_own V k x).2)) else w_o_own V k x := rfl
    rw [eo]; split
    · dsimp only; rw [w_k_un (by omega), w_o_own_0 k x]
    · exact w_o_own_0 k x
theorem w_e10_24 {t : g_S} (hV : w_k_Vok n V) (H : w_k_CV t c V) (hc : c = 22 ∨ c = 49) (hon : V 2 ≠ -1) (h7 : t 77 7 = nI (w_o_hol V))
    (hcl : ∀ k, k < 13 → t 78 k = w_o_claim V L k ∧ t 79 k = w_o_whom V k ∧ t 80 k = 0 ∧ t 81 k = 0 ∧ t 82 k = w_q_b (w_o_must V L k) ∧ t 83 k = 0) :
    ∃ u, f10_24 t c l = some u ∧ w_o_CE u V L ∧ ∀ x, x ≠ 80 → x ≠ 81 → x ≠ 83 → u x = t x := by
  have hh := w_o_hol_lt hV
  have c78 : ∀ k, 1 ≤ k → k ≤ w_o_hol V → t 78 k = w_o_claim1 V L k := fun k h1 h2 => by rw [(hcl k (by omega)).1]; unfold w_o_claim; rw [if_pos ⟨hon, h1, h2⟩]
  have c79 : ∀ k, 1 ≤ k → k ≤ w_o_hol V → t 79 k = w_o_whom1 V k := fun k h1 h2 => by rw [(hcl k (by omega)).2.1]; unfold w_o_whom; rw [if_pos ⟨hon, h1, h2⟩]
  unfold f10_24 f13
  rw [h7]
  obtain ⟨u1, p1, p2, p3⟩ := w_e13 hV H hc c78 c79 (w_o_hol V) w_o_z t (Nat.le_refl _) (fun _ _ _ => rfl) (fun j hj => ⟨(hcl j hj).2.2.1, (hcl j hj).2.2.2.2.2⟩)
  have hcc : ∀ u : g_S, (∀ y, y ≠ 80 → y ≠ 83 → u y = t y) → u c 2 = V 1 := fun u hu => by rw [hu c (by omega) (by omega)]; exact H.1.2.1
  rw [p1, w_k_bs, hcc u1 p2]
  unfold f14
  obtain ⟨u2, q1, q2, q3, q4, q5⟩ := w_e14 (t0 := u1) hV ((w_o_PG1 V L).1, 0) (by rw [p2 77 (by omega) (by omega)]; exact h7) (fun k h1 h2 => by rw [p2 79 (by omega) (by omega)]; exact c79 k h1 h2) (w_o_hol V) 0 u1 (by omega) (fun _ _ _ => rfl)
    (fun j hj => (p3 j hj).1) (by rw [(p3 0 (by omega)).2, w_o_up_0]; rfl) (fun _ _ => rfl)
  rw [show f14_2L u1 (V 1) 1 = some u2 from q1, w_k_bs, w_k_let]
  have f2 : ∀ y, y ≠ 80 → y ≠ 83 → u2 y = t y := fun y h1 h2 => by rw [q2 y h1 h2, p2 y h1 h2]
  obtain ⟨u3, r1, r2, r3⟩ := w_e10_44 (c := c) (l := l) (t0 := g_w u2 81 0 (u2 c 2 - u2 83 0)) hV (by rw [w_k_wn (by omega), f2 77 (by omega) (by omega)]; exact h7) (w_o_hol V) 0 _ (by omega) (fun _ _ => rfl) (fun j hj => by rw [if_neg (by omega)])
  refine ⟨u3, r1, ⟨?_, fun k hk => ?_⟩, fun x h1 h2 h3 => ?_⟩
  · rw [r2 77 (by omega), w_k_wn (by omega), f2 77 (by omega) (by omega), h7]
    unfold w_k_holder w_o_hol; rw [if_neg hon]
  · refine ⟨?_, ?_, ?_, ?_, ?_⟩
    · rw [r2 78 (by omega), w_k_wn (by omega), f2 78 (by omega) (by omega)]; exact (hcl k hk).1
    · rw [r2 79 (by omega), w_k_wn (by omega), f2 79 (by omega) (by omega)]; exact (hcl k hk).2.1
    · rw [r2 80 (by omega), w_k_wn (by omega), q3 k hk]
      unfold w_o_pays w_o_PO; rw [if_neg hon]
    · rw [r3 k hk]
      unfold w_o_bears
      rw [if_neg hon]
      by_cases h0 : k = 0
      · subst h0
        rw [if_neg (by omega), if_pos rfl, w_k_wv, hcc u2 f2, q4]; rfl
      · rw [if_neg h0]
        by_cases hk2 : k ≤ w_o_hol V
        · rw [if_pos ⟨by omega, hk2⟩, if_pos hk2, w_k_wn (by omega), w_k_wn (by omega), q3 k hk, q5 k h0, (p3 k hk).2]; rfl
        · rw [if_neg (by omega), if_neg hk2, w_k_wq (by omega), f2 81 (by omega) (by omega)]; exact (hcl k hk).2.2.2.1
    · rw [r2 82 (by omega), w_k_wn (by omega), f2 82 (by omega) (by omega)]; exact (hcl k hk).2.2.2.2.1
  · rw [r2 x h2, w_k_wn h2, f2 x h1 h3]
theorem w_e10_13 {t0 : g_S} (hV : w_k_Vok n V) (H : w_k_CV t0 c V) (HL : w_k_LR t0 l L) (hc : c = 22 ∨ c = 49) (hl : l = 3 ∨ 86 ≤ l) (hon : V 2 ≠ -1) (h7 : t0 77 7 = nI (w_o_hol V))
    (h0 : ∀ k, k < 13 → t0 80 k = 0 ∧ t0 81 k = 0 ∧ t0 83 k = 0) :
    ∀ (d k : Nat) (t : g_S), 1 ≤ k → k + d = w_o_hol V + 1 → (∀ y, y ≠ 78 → y ≠ 79 → y ≠ 82 → y ≠ 84 → y ≠ l + 7 → t y = t0 y) →
      (∀ j, j < 13 → t 78 j = (if 1 ≤ j ∧ j < k then w_o_claim1 V L j else 0) ∧ t 79 j = (if 1 ≤ j ∧ j < k then w_o_whom1 V j else -1) ∧ t 82 j = (if 1 ≤ j ∧ j < k then w_q_b (w_o_must1 V L j) else 0)) →
      ∃ u, f10_13L t c l (nI k) = some u ∧ w_o_CE u V L ∧ ∀ x, ¬ (78 ≤ x ∧ x ≤ 84) → x ≠ l + 7 → u x = t0 x
  | 0, k, t, h1, hk, h2, h3 => by
    have hb := w_k_Vb hV
    have hh := w_o_hol_lt hV
    have e' : k = w_o_hol V + 1 := by omega
    subst e'
    rw [f10_13L_eq]; unfold f10_13
    rw [h2 77 (by omega) (by omega) (by omega) (by omega) (by omega), h7, if_pos ((w_k_lt (by omega) (by omega)).2 (by omega))]
    obtain ⟨u, q1, q2, q3⟩ := w_e10_24 (l := l) (L := L) hV (w_k_CV_cg H hb.1 hb.2.1 (fun x h3 h4 => h2 x (by omega) (by omega) (by omega) (by omega) (by omega))) hc hon (by rw [h2 77 (by omega) (by omega) (by omega) (by omega) (by omega)]; exact h7) (fun j hj => by
      obtain ⟨a1, a2, a3⟩ := h3 j hj
      rw [a1, a2, a3, h2 80 (by omega) (by omega) (by omega) (by omega) (by omega), h2 81 (by omega) (by omega) (by omega) (by omega) (by omega), h2 83 (by omega) (by omega) (by omega) (by omega) (by omega)]
      unfold w_o_claim w_o_whom w_o_must
      by_cases g : 1 ≤ j ∧ j < w_o_hol V + 1
      · rw [if_pos g, if_pos g, if_pos g, if_pos ⟨hon, by omega, by omega⟩, if_pos ⟨hon, by omega, by omega⟩, if_pos ⟨hon, by omega, by omega⟩]
        exact ⟨rfl, rfl, (h0 j hj).1, (h0 j hj).2.1, rfl, (h0 j hj).2.2⟩
      · rw [if_neg g, if_neg g, if_neg g, if_neg (by omega), if_neg (by omega), if_neg (by omega)]
        exact ⟨rfl, rfl, (h0 j hj).1, (h0 j hj).2.1, rfl, (h0 j hj).2.2⟩)
    rw [q1]
    exact ⟨u, rfl, q2, fun x h3 h4 => by rw [q3 x (by omega) (by omega) (by omega), h2 x (by omega) (by omega) (by omega) (by omega) h4]⟩
  | d + 1, k, t, h1, hk, h2, h3 => by
    have hb := w_k_Vb hV
    have hh := w_o_hol_lt hV
    rw [f10_13L_eq]; unfold f10_13
    rw [h2 77 (by omega) (by omega) (by omega) (by omega) (by omega), h7, if_neg (w_k_nlt (by omega) (by omega) (by omega))]
    obtain ⟨u, q1, q2, q3, q4, q5⟩ := w_e12 hV (w_k_CV_cg H hb.1 hb.2.1 (fun x h3 h4 => h2 x (by omega) (by omega) (by omega) (by omega) (by omega))) (w_k_LR_cg (fun x h3 h4 => h2 x (by omega) (by omega) (by omega) (by omega) (by omega)) HL) hc hl (by rw [h2 77 (by omega) (by omega) (by omega) (by omega) (by omega)]; exact h7) h1 (k := k) (by omega)
    rw [q1, w_k_bs, w_k_s1]
    refine w_e10_13 hV H HL hc hl hon h7 h0 d (k + 1) u (by omega) (by omega) (fun y g1 g2 g3 g4 g5 => by rw [q5 y g1 g2 g3 g4 g5, h2 y g1 g2 g3 g4 g5]) (fun j hj => ?_)
    obtain ⟨a1, a2, a3⟩ := h3 j hj
    rw [q2 j, q3 j, q4 j]
    by_cases e : j = k
    · subst e; rw [if_pos rfl, if_pos rfl, if_pos rfl, if_pos (by omega), if_pos (by omega), if_pos (by omega)]; exact ⟨rfl, rfl, rfl⟩
    · rw [if_neg e, if_neg e, if_neg e, a1, a2, a3]
      by_cases g : 1 ≤ j ∧ j < k
      · rw [if_pos g, if_pos g, if_pos g, if_pos (by omega), if_pos (by omega), if_pos (by omega)]; exact ⟨rfl, rfl, rfl⟩
      · rw [if_neg g, if_neg g, if_neg g, if_neg (by omega), if_neg (by omega), if_neg (by omega)]; exact ⟨rfl, rfl, rfl⟩
theorem w_e10 (hV : w_k_Vok n V) (H : w_k_CV s c V) (HL : w_k_LR s l L) (hc : c = 22 ∨ c = 49) (hl : l = 3 ∨ 86 ≤ l) :
    ∃ u, f10 s c l = some u ∧ w_o_CE u V L ∧ ∀ x, ¬ (77 ≤ x ∧ x ≤ 84) → x ≠ l + 7 → u x = s x := by
  have hb := w_k_Vb hV
  have hh := w_o_hol_lt hV
  obtain ⟨u1, p1, p2, p3⟩ := w_e11 (s := s)
  unfold f10
  have hCV : w_k_CV u1 c V := w_k_CV_cg H hb.1 hb.2.1 (fun x h3 h4 => p2 x (by omega))
  rw [p1, w_k_bs, w_e2 hV hCV, w_k_bs, w_k_let, w_k_wv]
  have hf : ∀ x, ¬ (77 ≤ x ∧ x ≤ 84) → g_w u1 77 7 (w_k_holder V) x = s x := fun x hx => by rw [w_k_wn (by omega), p2 x (by omega)]
  unfold w_k_holder
  by_cases hon : V 2 = -1
  · rw [if_pos hon, if_pos rfl]
    refine ⟨_, rfl, ⟨?_, fun k hk => ?_⟩, fun x h1 h2 => ?_⟩
    · rw [w_k_wv]; unfold w_k_holder; rw [if_pos hon]
    · simp (disch := omega) only [w_k_wn]
      obtain ⟨a1, a2, a3, a4, a5, a6⟩ := p3 k hk
      rw [a1, a2, a3, a4, a5]
      unfold w_o_claim w_o_whom w_o_must w_o_pays w_o_bears
      have hno : ¬ (V 2 ≠ -1 ∧ 1 ≤ k ∧ k ≤ w_o_hol V) := fun h => h.1 hon
      simp only [if_neg hno, if_pos hon]
      exact ⟨trivial, trivial, trivial, trivial, rfl⟩
    · rw [w_k_wn (by omega), p2 x (by omega)]
  · rw [if_neg hon]
    rw [if_neg (show ¬ nI (w_k_hol V (w_k_hc V)) = -1 from fun e => by
      have h1 := congrArg Int32.toInt e
      rw [w_k_nI (by have : w_k_hol V (w_k_hc V) = w_o_hol V := rfl; omega)] at h1
      have h2 : (-1 : Int32).toInt = -1 := rfl
      omega)]
    have hho : w_k_holder V = nI (w_o_hol V) := by unfold w_k_holder w_o_hol; rw [if_neg hon]
    obtain ⟨u, q1, q2, q3⟩ := w_e10_13 (t0 := g_w u1 77 7 (nI (w_k_hol V (w_k_hc V)))) (L := L) hV (w_k_CV_cg hCV hb.1 hb.2.1 (fun x h3 h4 => w_k_wn (by omega))) (w_k_LR_cg (fun x h3 h4 => by rw [w_k_wn (by omega), p2 x (by omega)]) HL) hc hl hon w_k_wv
      (fun k hk => by rw [w_k_wn (by omega), w_k_wn (by omega), w_k_wn (by omega)]; exact ⟨(p3 k hk).2.2.1, (p3 k hk).2.2.2.1, (p3 k hk).2.2.2.2.2⟩)
      (w_o_hol V) 1 _ (by omega) (by omega) (fun _ _ _ _ _ _ => rfl) (fun j hj => by
        rw [if_neg (by omega), if_neg (by omega), if_neg (by omega), w_k_wn (by omega), w_k_wn (by omega), w_k_wn (by omega)]
        exact ⟨(p3 j hj).1, (p3 j hj).2.1, (p3 j hj).2.2.2.2.1⟩)
    exact ⟨u, q1, q2, fun x h1 h2 => by rw [q3 x (by omega) h2, w_k_wn (by omega), p2 x (by omega)]⟩
end EC3
