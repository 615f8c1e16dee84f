section RC
variable {T : Nat → Int32} {n l : Nat}
theorem w_SP_comp (hn : n ≤ 500) (hB : ∀ j, j < n → w_k_wi (T j) 0 255) (hl : 20 ≤ l) (hl2 : l < 565) (hlay : g_lay l = o_4 l) {F : g_S → Option (Int32 × g_S)} {o : Nat} (ho6 : o ≤ 6) :
    w_k_SP T n l o (fun s => g_bd (f57c s) fun v4 s5 => if v4 = 0 then (f54_41 F s5 (s5 11 5)) else (g_bd (f56 s5) fun v7 s8 => if v7 = 0 then (f54_41 F s8 (s5 11 5)) else (g_bd (f57c s8) fun v10 s11 => if v10 = 0 then (f54_41 F s11 (s5 11 5)) else (f54_42 F s11 (s5 11 5) 1)))) (w_t_comp T n) := by
  intro s p cs a b d xs mix k hs hw ho hk
  dsimp only
  -- after a failure: the step is told to what is thrown away
  have fin : ∀ (c : Int32) (z : g_S) (e : Int32 × Nat), w_k_FL z T n l e → w_k_fl l s z → w_OK (f54_41 F z c) (w_k_PR T n l o cs a b d xs mix k p s (.inl e)) := by
    intro c z e hz hf
    obtain ⟨y, y1, y2, y3⟩ := w_e33j (v := c) hz.2.2.2 hl
    unfold f54_41 f54_42
    rw [w_k_l4 hl2 hz.1, if_pos hlay, y1, w_k_bs, if_pos w_k_b0]
    exact w_ok_some ⟨rfl, w_k_FL_l hz hl y3 y2, w_k_fl_tr hf (w_k_fl_l y3)⟩
  obtain ⟨⟨v, t⟩, q1, q2⟩ := w_SP_E hn hB hl hl2 hlay ho6 s p cs a b d xs mix k hs hw ho hk
  rw [q1, w_k_bd]
  unfold w_t_comp
  cases hR : w_t_E T n p o with
  | inl e =>
    rw [hR] at q2
    obtain ⟨r1, r2, r3⟩ := q2
    dsimp only at r1 r2 r3
    rw [if_pos r1]
    exact fin _ t e r2 r3
  | inr e =>
    obtain ⟨q, ys⟩ := e
    rw [hR] at q2
    obtain ⟨r1, r2, r3, r4, r5, r6, r7⟩ := q2
    dsimp only at r1 r2 r3 r4 r5 r6 r7
    dsimp only
    rw [r1, if_neg w_k_01]
    by_cases hc : w_t_kd T n q = 60 ∨ w_t_kd T n q = 62 ∨ w_t_kd T n q = 61
    · rw [if_pos hc]
      have hqn : q < n := w_t_kdn (T := T) (by rcases hc with e | e | e <;> (rw [e]; decide))
      have hnx := w_t_nx_lt (T := T) hqn
      have hc0 : ¬ w_t_kd T n q < 0 := by rcases hc with e | e | e <;> (rw [e]; decide)
      obtain ⟨s1, p1, p2, p3⟩ := w_e64 (c := w_t_kd T n q) hn hB r2 rfl
      have f1 : ∀ x b, x ≠ 11 → s1 x b = t x b := fun x b hx => p3 x b (by omega)
      have e56 : f56 t = some (1, s1) := by
        unfold f56 f56_8
        rw [r2.2.2.2.1]
        by_cases h60 : w_t_kd T n q = 60
        · rw [if_pos h60, p1, w_k_bd, if_pos w_k_b1]
        · rw [if_neg h60]
          by_cases h62 : w_t_kd T n q = 62
          · rw [if_pos h62, p1, w_k_bd, if_pos w_k_b1]
          · rw [if_neg h62]
            rw [(hc.resolve_left h60).resolve_left h62] at p1
            rw [p1, w_k_bd, if_pos w_k_b1]
      obtain ⟨⟨v2, t2⟩, d1, d2⟩ := w_SP_E hn hB hl hl2 hlay ho6 s1 (w_t_nx T n q) cs a b d (xs ++ ys) mix (k + ys.length) p2 (w_k_LW_11 r3 hl f1) (by rw [p3 11 9 (by omega)]; exact r4) (by omega)
      rw [e56, w_k_bd, if_neg w_k_01, r2.2.2.2.1, d1, w_k_bd]
      have hf3 : w_k_fl l s s1 := w_k_fl_tr r5 (w_k_fl_11 f1)
      cases hR2 : w_t_E T n (w_t_nx T n q) o with
      | inl e =>
        rw [hR2] at d2
        obtain ⟨w1, w2, w3⟩ := d2
        dsimp only at w1 w2 w3
        rw [if_pos w1]
        exact fin _ t2 e w2 (w_k_fl_tr hf3 w3)
      | inr e =>
        obtain ⟨r, zs⟩ := e
        rw [hR2] at d2
        obtain ⟨w1, w2, w3, w4, w5, w6, w7⟩ := d2
        dsimp only at w1 w2 w3 w4 w5 w6 w7
        have hrn := w2.2.2.2.2.2
        obtain ⟨y, y1, y2, y3⟩ := w_e33 (v := w_t_kd T n q) w3 hl (by omega) hc0
        rw [w1, if_neg w_k_01]
        unfold f54_42
        rw [w_k_l4 hl2 w2.1, if_pos hlay, y1, w_k_bs, if_pos w_k_b1]
        have w_e11 : y 11 = t2 11 := y3 11 (by omega)
        have eacc : xs ++ ys ++ zs ++ [w_t_kd T n q] = xs ++ (ys ++ (zs ++ [w_t_kd T n q])) := by simp
        have elen : k + ys.length + zs.length + 1 = k + (ys ++ (zs ++ [w_t_kd T n q])).length := by simp; omega
        rw [eacc, elen] at y2
        refine w_ok_some ⟨rfl, w_k_RS_l w2 hl y3, y2, ?_, w_k_fl_tr hf3 (w_k_fl_tr w5 (w_k_fl_l y3)), ?_, ?_⟩
        · dsimp only; rw [w_e11]; exact w4
        · show p + (ys ++ (zs ++ [w_t_kd T n q])).length ≤ _; simp; omega
        · dsimp only; rw [w_e11, w7, p3 11 1 (by omega), r7]
    · rw [if_neg hc]
      obtain ⟨u, h1, h2, h3⟩ := w_e64n (c := 61) hl r2 (w_k_LW_JK r3) (fun h => hc (Or.inr (Or.inr h)))
      have e56 : f56 t = some (0, u) := by
        unfold f56
        rw [r2.2.2.2.1, if_neg (fun h => hc (Or.inl h)), if_neg (fun h => hc (Or.inr (Or.inl h))), h1, w_k_bd, if_pos w_k_b0]
      rw [e56, w_k_bd, if_pos rfl]
      exact fin _ u _ h2 (w_k_fl_tr r5 h3)
theorem w_SP_cond (hn : n ≤ 500) (hB : ∀ j, j < n → w_k_wi (T j) 0 255) (hl : 20 ≤ l) (hl2 : l < 565) (hlay : g_lay l = o_4 l) {F : g_S → Option (Int32 × g_S)} {φ : Nat → Nat → w_t_R} {o : Nat} (ho6 : o ≤ 6) (hF : o < 6 → w_k_SP T n l (o + 1) F φ) : w_k_SP T n l o (f54 F) (w_t_cond T n φ) := by
  intro s p cs a b d xs mix k hs hw ho hk
  have hj := w_k_LW_JK hw
  unfold f54 w_t_cond
  rw [w_e71 hn hs (by omega), w_k_bs, hs.2.2.2.1]
  by_cases hnot : w_t_wof T n p 8 = 0
  · rw [if_pos hnot, if_neg w_k_01, if_pos hnot]
    have hpn := (w_t_wof_w (T := T) (n := n) (p := p) (k := 8) (by rw [hnot]; decide)).2
    have hnx := w_t_nx_lt (T := T) hpn
    unfold f55
    by_cases h6 : o < 6
    · rw [if_pos h6]
      obtain ⟨u, p1, p2, p3, p4, p5⟩ := w_e62 hn hB hs ho h6
      rw [p1, w_k_bd, if_neg w_k_01]
      obtain ⟨⟨v, t⟩, q1, q2⟩ := hF h6 u (w_t_nx T n p) cs a b d xs mix k p2 (w_k_LW_11 hw hl p4) p3 (by omega)
      rw [q1, w_k_bd]
      cases hR : φ (w_t_nx T n p) (o + 1) with
      | inl e =>
        rw [hR] at q2
        obtain ⟨r1, r2, r3⟩ := q2
        dsimp only at r1 r2 r3
        rw [if_pos r1, w_k_bd, if_pos w_k_b0]
        exact w_ok_some ⟨rfl, r2, w_k_fl_tr (w_k_fl_11 p4) r3⟩
      | inr e =>
        obtain ⟨q, ys⟩ := e
        rw [hR] at q2
        obtain ⟨r1, r2, r3, r4, r5, r6, r7⟩ := q2
        dsimp only at r1 r2 r3 r4 r5 r6 r7
        dsimp only
        have hqn := r2.2.2.2.2.2
        have f9 : ∀ x b, x ≠ 11 → g_w t 11 9 (nI o) x b = t x b := fun x b hx => by rw [w_k_wq (by omega)]
        have hs2 : w_k_RS (g_w t 11 9 (nI o)) T n l q := ⟨w_k_RT_w r2.1 (by omega), by rw [w_k_wq (by omega)]; exact r2.2.1, by rw [w_k_wq (by omega)]; exact r2.2.2.1, by rw [w_k_wq (by omega)]; exact r2.2.2.2.1, fun e => by rw [w_k_wq (by omega)]; exact r2.2.2.2.2.1 e, r2.2.2.2.2.2⟩
        obtain ⟨y, y1, y2, y3⟩ := w_e33 (v := 33) (w_k_LW_11 r3 hl f9) hl (by omega) (by decide)
        rw [r1, if_neg w_k_01, w_k_let, r4, w_k_m1, w_k_l4 hl2 hs2.1, if_pos hlay, y1, w_k_bs, w_k_bd, if_pos w_k_b1]
        have w_e11 : y 11 = g_w t 11 9 (nI o) 11 := y3 11 (by omega)
        have eacc : xs ++ ys ++ [33] = xs ++ (ys ++ [33]) := by simp
        have elen : k + ys.length + 1 = k + (ys ++ [(33 : Int32)]).length := by simp; omega
        rw [eacc, elen] at y2
        refine w_ok_some ⟨rfl, w_k_RS_l hs2 hl y3, y2, ?_, w_k_fl_tr (w_k_fl_11 p4) (w_k_fl_tr r5 (w_k_fl_tr (w_k_fl_11 f9) (w_k_fl_l y3))), ?_, ?_⟩
        · dsimp only; rw [w_e11, w_k_wv]
        · show p + (ys ++ [(33 : Int32)]).length ≤ _; simp; omega
        · dsimp only; rw [w_e11, w_k_wq (by omega), r7, p5]
    · rw [if_neg h6]
      obtain ⟨u, p1, p2, p3⟩ := w_e62n hl hs hj ho h6 (by omega)
      rw [p1, w_k_bd, if_pos rfl, w_k_bd, if_pos w_k_b0]
      exact w_ok_some ⟨rfl, p2, p3⟩
  · rw [if_neg hnot, if_pos rfl, if_neg hnot]
    by_cases h91 : w_t_kd T n p = 91
    · rw [if_pos h91, if_pos h91]
      have hpn : p < n := w_t_kdn (T := T) (by rw [h91]; decide)
      have hnx := w_t_nx_lt (T := T) hpn
      by_cases h6 : o < 6
      · rw [if_pos h6]
        obtain ⟨u, p1, p2, p3, p4, p5⟩ := w_e62 hn hB hs ho h6
        rw [p1, w_k_bd, if_neg w_k_01]
        obtain ⟨w, q1, q2⟩ := w_SP_eith hn hB hl hl2 hlay (hF h6) u (w_t_nx T n p) cs a b d xs mix k p2 (w_k_LW_11 hw hl p4) p3 (by omega)
        rw [q1]
        obtain ⟨z, z1, z2⟩ := w_then_sign (c := 93) hn hB hl q2
        refine ⟨z, z1, ?_⟩
        unfold w_t_ts at z2
        cases hR : w_t_eith T n φ (w_t_nx T n p) (o + 1) with
        | inl e => rw [hR] at z2; exact ⟨z2.1, z2.2.1, w_k_fl_tr (w_k_fl_11 p4) z2.2.2⟩
        | inr e =>
          obtain ⟨q, ys⟩ := e
          rw [hR] at z2
          dsimp only at z2 ⊢
          cases hS : w_t_sign T n 93 q ys with
          | inl e => rw [hS] at z2; exact ⟨z2.1, z2.2.1, w_k_fl_tr (w_k_fl_11 p4) z2.2.2⟩
          | inr e => rw [hS] at z2; exact ⟨z2.1, z2.2.1, z2.2.2.1, z2.2.2.2.1, w_k_fl_tr (w_k_fl_11 p4) z2.2.2.2.2.1, by have := z2.2.2.2.2.2.1; omega, by rw [z2.2.2.2.2.2.2, p5]⟩
      · rw [if_neg h6]
        obtain ⟨u, p1, p2, p3⟩ := w_e62n hl hs hj ho h6 (by omega)
        rw [p1, w_k_bd, if_pos rfl]
        exact w_ok_some ⟨rfl, p2, p3⟩
    · rw [if_neg h91, if_neg h91]
      exact w_SP_comp hn hB hl hl2 hlay ho6 s p cs a b d xs mix k hs hw ho hk
theorem w_SP_C (hn : n ≤ 500) (hB : ∀ j, j < n → w_k_wi (T j) 0 255) (hl : 20 ≤ l) (hl2 : l < 565) (hlay : g_lay l = o_4 l) : ∀ m o, o ≤ 6 → 7 ≤ m + o → w_k_SP T n l o (g54 m) (w_t_C T n m)
  | 0, o, h1, h2 => by omega
  | m + 1, o, h1, h2 => w_SP_cond hn hB hl hl2 hlay h1 (fun h => w_SP_C hn hB hl hl2 hlay m (o + 1) (by omega) (by omega))
theorem w_SP_X (hn : n ≤ 500) (hB : ∀ j, j < n → w_k_wi (T j) 0 255) (hl : 20 ≤ l) (hl2 : l < 565) (hlay : g_lay l = o_4 l) {o : Nat} (ho : o ≤ 6) : w_k_SP T n l o f52c (w_t_X T n) :=
  w_SP_eith hn hB hl hl2 hlay (w_SP_C hn hB hl hl2 hlay 9 o ho (by omega))
/-! clauses -/
theorem w_e32 {s : g_S} {cs : List w_q_C} {a b d mix v : Int32} {xs : List Int32} {k : Nat} (h : w_k_LW s l cs (a, (b, (d, xs))) mix k) (hl : 20 ≤ l) : ∃ u, f32 s l v = some u ∧ w_k_LW u l cs (a, (b, (d ||| v, xs))) mix k ∧ (∀ x, ¬ (l ≤ x ∧ x ≤ l + 6) → u x = s x) := by
  obtain ⟨⟨r0, r1, r2, r3⟩, h8, he, h5, hle⟩ := h
  have hlen : (cs ++ [(a, (b, (d, xs)))]).length = cs.length + 1 := by simp
  simp only [hlen] at r1 r2
  unfold f32
  obtain ⟨g0, g1, g2, st, g3, g4, g5, g6⟩ := r3 cs.length (a, (b, (d, xs))) (by rw [List.getElem?_append_right (Nat.le_refl _), Nat.sub_self]; rfl)
  rw [r1, if_pos (show (0 : Int32) < nI (cs.length + 1) from (w_k_lt (a := 0) (by omega) (by omega)).2 (by omega)), w_k_m1, if_pos ((w_k_inI (by omega)).2 (by omega)), w_k_nat (by omega), w_k_let]
  refine ⟨_, rfl, ⟨⟨?_, ?_, ?_, fun i c hc => ?_⟩, ?_, ?_, h5, fun i hi => ?_⟩, fun x hx => ?_⟩
  · simp (disch := omega) only [w_k_wq]; exact r0
  · simp (disch := omega) only [w_k_wq]; rw [r1]; simp
  · simp; omega
  · have hil := w_k_lt_of hc
    have hil2 : i < cs.length + 1 := by simp at hil; omega
    by_cases e : i = cs.length
    · subst e
      have hc2 : c = (a, (b, (d ||| v, xs))) := by
        rw [List.getElem?_append_right (Nat.le_refl _), Nat.sub_self] at hc
        cases hc; rfl
      subst hc2
      refine ⟨?_, ?_, ?_, st, g3, ?_, ?_, fun j x hj => ?_⟩
      · simp (disch := omega) only [w_k_wq]; exact g0
      · simp (disch := omega) only [w_k_wq]; exact g1
      · simp (disch := omega) only [w_k_wv]; rw [g2]
      · simp (disch := omega) only [w_k_wq]; exact g4
      · simp (disch := omega) only [w_k_wq]; exact g5
      · simp (disch := omega) only [w_k_wq]; exact g6 j x hj
    · have hc2 : (cs ++ [(a, (b, (d, xs)))])[i]? = some c := by
        rw [List.getElem?_append_left (by omega)] at hc ⊢; exact hc
      obtain ⟨q0, q1, q2, st2, q3, q4, q5, q6⟩ := r3 i c hc2
      refine ⟨?_, ?_, ?_, st2, q3, ?_, ?_, fun j x hj => ?_⟩
      · simp (disch := omega) only [w_k_wq]; exact q0
      · simp (disch := omega) only [w_k_wq]; exact q1
      · simp (disch := omega) only [w_k_wq]; exact q2
      · simp (disch := omega) only [w_k_wq]; exact q4
      · simp (disch := omega) only [w_k_wq]; exact q5
      · simp (disch := omega) only [w_k_wq]; exact q6 j x hj
  · simp (disch := omega) only [w_k_wq]; exact h8
  · simp (disch := omega) only [w_k_wq]; exact he
  · obtain ⟨en, hen, he2⟩ := hle i hi
    refine ⟨en, hen, ?_⟩
    simp (disch := omega) only [w_k_wq]; exact he2
  · simp (disch := omega) only [w_k_wn]
def w_k_LC (s : g_S) (l : Nat) (L : w_q_L) (k : Nat) : Prop := w_k_LR s l L ∧ s l 8 = nI k ∧ k ≤ 500 ∧ ∀ i, i < L.1.length → ∃ e, e ≤ k ∧ s (l + 5) i = nI e
theorem w_k_LC_JK {s : g_S} {L : w_q_L} {k : Nat} (h : w_k_LC s l L k) : w_k_JK s l := ⟨_, k, h.1.2.2.1, h.2.2.1, h.1.2.1, h.2.1⟩
theorem w_k_LW_LC {s : g_S} {cs : List w_q_C} {c : w_q_C} {mix : Int32} {k : Nat} (h : w_k_LW s l cs c mix k) : w_k_LC s l (cs ++ [c], mix) k := by
  refine ⟨h.1, h.2.1, h.2.2.2.1, fun i hi => ?_⟩
  have hi2 : i < cs.length + 1 := by simp at hi; omega
  by_cases e : i = cs.length
  · subst e; exact ⟨k, Nat.le_refl _, h.2.2.1⟩
  · exact h.2.2.2.2 i (by omega)
theorem w_k_LC_11 {s u : g_S} {L : w_q_L} {k : Nat} (h : w_k_LC s l L k) (hl : 20 ≤ l) (hu : ∀ x b, x ≠ 11 → u x b = s x b) : w_k_LC u l L k := by
  have e : ∀ x, x ≠ 11 → u x = s x := fun x hx => funext fun b => hu x b hx
  obtain ⟨h1, h2, h4, h5⟩ := h
  exact ⟨w_k_LR_cg (fun x q1 q2 => e x (by omega)) h1, by rw [e l (by omega)]; exact h2, h4, fun i hi => by rw [e (l + 5) (by omega)]; exact h5 i hi⟩
theorem w_e31 {s : g_S} {L : w_q_L} {k : Nat} {a b : Int32} (h : w_k_LC s l L k) (hl : 20 ≤ l) (h24 : L.1.length < 24) : ∃ u, f31 s l a b = some u ∧ w_k_LW u l L.1 (a, (b, (0, []))) L.2 k ∧ (∀ x, ¬ (l ≤ x ∧ x ≤ l + 6) → u x = s x) := by
  obtain ⟨⟨r0, r1, r2, r3⟩, h8, h5, hle⟩ := h
  unfold f31 f30
  have hin : m_in (nI L.1.length) 24 = true := (w_k_inI (by omega)).2 h24
  have hnn : (nI L.1.length).toNatClampNeg = L.1.length := w_k_nat (by omega)
  rw [r1, if_pos (show nI L.1.length < 24 from (w_k_lt (b := 24) (by omega) (by omega)).2 h24), w_k_bs, if_pos rfl, if_pos hin]
  simp (disch := omega) only [w_k_let, w_k_wq, r1, hin, hnn, h8, if_true, w_k_s1]
  refine ⟨_, rfl, ⟨⟨?_, ?_, ?_, fun i c hc => ?_⟩, ?_, ?_, h5, fun i hi => ?_⟩, fun x hx => ?_⟩
  · simp (disch := omega) only [w_k_wq]; exact r0
  · simp (disch := omega) only [w_k_wv]; simp
  · simp; omega
  · have hil := w_k_lt_of hc
    have hil2 : i < L.1.length + 1 := by simp at hil; omega
    by_cases e : i = L.1.length
    · subst e
      have hc2 : c = (a, (b, (0, []))) := by
        rw [List.getElem?_append_right (Nat.le_refl _), Nat.sub_self] at hc
        cases hc; rfl
      subst hc2
      refine ⟨?_, ?_, ?_, k, ?_, ?_, ?_, fun j x hj => by cases hj⟩
      · simp (disch := omega) only [w_k_wq, w_k_wv]
      · simp (disch := omega) only [w_k_wq, w_k_wv]
      · simp (disch := omega) only [w_k_wq, w_k_wv]
      · simp; omega
      · simp (disch := omega) only [w_k_wq, w_k_wv]
      · simp (disch := omega) only [w_k_wq, w_k_wv]; rfl
    · have hc2 : L.1[i]? = some c := by
        rw [List.getElem?_append_left (by omega)] at hc; exact hc
      obtain ⟨q0, q1, q2, st2, q3, q4, q5, q6⟩ := r3 i c hc2
      refine ⟨?_, ?_, ?_, st2, q3, ?_, ?_, fun j x hj => ?_⟩
      · simp (disch := omega) only [w_k_wq]; exact q0
      · simp (disch := omega) only [w_k_wq]; exact q1
      · simp (disch := omega) only [w_k_wq]; exact q2
      · simp (disch := omega) only [w_k_wq]; exact q4
      · simp (disch := omega) only [w_k_wq]; exact q5
      · simp (disch := omega) only [w_k_wq]; exact q6 j x hj
  · simp (disch := omega) only [w_k_wq]; exact h8
  · simp (disch := omega) only [w_k_wq, w_k_wv]
  · obtain ⟨en, hen, he2⟩ := hle i hi
    refine ⟨en, hen, ?_⟩
    simp (disch := omega) only [w_k_wq]; exact he2
  · simp (disch := omega) only [w_k_wn]
end RC
