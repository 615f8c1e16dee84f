/-! pass -/
def w_k_pas (V : w_k_V) (h : Nat) (a : Nat → Int32) : w_k_V := fun j => if j = 0 then V 0 + 1 else if 10 + 12 * h ≤ j ∧ j < 21 + 12 * h then a (j - (10 + 12 * h)) else V j
def w_k_new (k d t m l : Int32) : Nat → Int32 := fun i => if i = 0 then k else if i = 1 then d else if i = 2 then t else if i = 3 then m else if i = 4 then l else if i = 5 then 9999 else 0
theorem w_k_pas0 {V : w_k_V} {h : Nat} {a : Nat → Int32} : w_k_pas V h a 0 = V 0 + 1 := rfl
theorem w_k_pasn {V : w_k_V} {h : Nat} {a : Nat → Int32} {j : Nat} (h0 : j ≠ 0) (h1 : j < 10 + 12 * h ∨ 21 + 12 * h ≤ j) : w_k_pas V h a j = V j := by
  unfold w_k_pas; rw [if_neg h0, if_neg (by omega)]
theorem w_k_pase {V : w_k_V} {h : Nat} {a : Nat → Int32} {j i : Nat} (h1 : j = 10 + 12 * h + i) (h2 : i < 11) : w_k_pas V h a j = a i := by
  unfold w_k_pas; rw [if_neg (by omega), if_pos (by omega)]; congr 1; omega
theorem w_k_pash {n : Nat} {V : w_k_V} {h : Nat} {a : Nat → Int32} (H : w_k_Vok n V) : w_k_hc (w_k_pas V h a) = w_k_hc V + 1 := by
  unfold w_k_hc; rw [w_k_pas0, w_k_hcI H, w_k_s1, w_k_nat (by have := (w_k_Vb H).1; omega), w_k_nat (by have := (w_k_Vb H).1; omega)]
def w_a_pass (V : w_k_V) (k d t m l : Int32) : (Int32 ⊕ Nat) × w_k_V :=
  if w_k_wi k 0 5 ∧ w_k_wi d 0 999 ∧ w_k_wi t 0 999 ∧ w_k_wi m 0 3 then
    (if w_k_hc V = 13 then (.inl (-1), V) else if 1 < w_k_hc V ∧ d < V (11 + 12 * (w_k_hc V - 1)) then (.inl (-2), V) else (.inl (V 0), w_k_pas V (w_k_hc V) (w_k_new k d t m l)))
  else (.inr 0, V)
theorem w_v_pass {n : Nat} {V : w_k_V} {k d t m l : Int32} (h : w_k_Vok n V) : w_k_Vok n (w_a_pass V k d t m l).2 := by
  unfold w_a_pass
  by_cases hg : w_k_wi k 0 5 ∧ w_k_wi d 0 999 ∧ w_k_wi t 0 999 ∧ w_k_wi m 0 3
  · rw [if_pos hg]
    by_cases h13 : w_k_hc V = 13
    · rw [if_pos h13]; exact h
    · rw [if_neg h13]
      by_cases hd : 1 < w_k_hc V ∧ d < V (11 + 12 * (w_k_hc V - 1))
      · rw [if_pos hd]; exact h
      · rw [if_neg hd]
        have hh := w_k_pash (h := w_k_hc V) (a := w_k_new k d t m l) h
        have hb := w_k_Vb h
        obtain ⟨a1, a2, a3, a4, a5, a6, a7, a8, a9, b1, b2, b3, b4⟩ := h
        dsimp only
        unfold w_k_Vok
        have w_e5 : w_k_qc (w_k_pas V (w_k_hc V) (w_k_new k d t m l)) = w_k_qc V := congrArg Int32.toNatClampNeg (w_k_pasn (by omega) (by omega))
        have e6 : w_k_pc (w_k_pas V (w_k_hc V) (w_k_new k d t m l)) = w_k_pc V := congrArg Int32.toNatClampNeg (w_k_pasn (by omega) (by omega))
        rw [hh, w_e5, e6, w_k_pas0, w_k_pasn (j := 5) (by omega) (by omega), w_k_pasn (j := 6) (by omega) (by omega), w_k_pasn (j := 2) (by omega) (by omega), w_k_pasn (j := 3) (by omega) (by omega), w_k_pasn (j := 4) (by omega) (by omega), w_k_pasn (j := 7) (by omega) (by omega), w_k_pasn (j := 1) (by omega) (by omega),
          w_k_sum_cg (V := V) _ (fun q _ => w_k_pasn (by omega) (by omega))]
        refine ⟨⟨?_, by omega, by omega⟩, a2, a3, a4, a5, a6, a7, fun h h1 h2 => ?_, fun h f h1 h2 => ?_, fun q hq => ?_, fun p hp => ?_, b3, fun h h2 => ?_⟩
        · rw [a1.1, w_k_s1]
        · by_cases e : h = w_k_hc V
          · subst e
            rw [w_k_pase (i := 0) (by omega) (by omega), w_k_pase (i := 1) (by omega) (by omega), w_k_pase (i := 3) (by omega) (by omega)]
            exact ⟨hg.1, hg.2.1, hg.2.2.2⟩
          · rw [w_k_pasn (by omega) (by omega), w_k_pasn (by omega) (by omega), w_k_pasn (by omega) (by omega)]
            exact a8 h h1 (by omega)
        · by_cases e : h = w_k_hc V
          · subst e
            rw [w_k_pase (i := 7 + f) (by omega) (by omega)]
            unfold w_k_new
            rw [if_neg (by omega), if_neg (by omega), if_neg (by omega), if_neg (by omega), if_neg (by omega), if_neg (by omega)]; rfl
          · rw [w_k_pasn (by omega) (by omega)]
            exact a9 h f h1 h2
        · obtain ⟨c1, c2, c3, c4⟩ := b1 q hq
          rw [w_k_pasn (by omega) (by omega), w_k_pasn (by omega) (by omega), w_k_pasn (by omega) (by omega)]
          refine ⟨c1, fun h => ?_, c3, c4⟩
          obtain ⟨i, hi, e⟩ := w_k_i1 a1.1 (by omega) (c2 h)
          rw [e, a1.1, w_k_s1, w_k_m1]
          exact w_k_iC (by omega) (by omega)
        · rw [w_k_pasn (by omega) (by omega)]; exact b2 p hp
        · by_cases e : h = w_k_hc V
          · subst e
            rw [w_k_pase (i := 5) (by omega) (by omega)]
            show w_k_wi (9999 : Int32) 0 9999
            decide
          · rw [w_k_pasn (by omega) (by omega)]; exact b4 h (by omega)
  · rw [if_neg hg]; exact h
theorem w_e84 {s : g_S} {V : w_k_V} {k d t m l : Int32} {n : Nat} (hV : w_k_Vok n V) (H : w_k_CV s 22 V) (hl : m_isb l = true) :
    ∃ u, f84 s k d t m l = some ((w_a_pass V k d t m l).1, u) ∧ w_k_CV u 22 (w_a_pass V k d t m l).2 ∧ ∀ x, ¬ (22 ≤ x ∧ x ≤ 48) → u x = s x := by
  unfold f84 f84_10 w_a_pass
  have hb := w_k_Vb hV
  by_cases h1 : w_k_wi k 0 5
  · rw [w_e118, w_k_ift h1, w_k_bs, if_neg w_k_01, w_e118]
    by_cases h2 : w_k_wi d 0 999
    · rw [w_k_ift h2, w_k_bs, if_neg w_k_01]
      unfold f84_11
      rw [w_e116t, w_k_tbl, w_e118]
      by_cases h3 : w_k_wi t 0 999
      · rw [w_k_ift h3, w_k_bs, if_neg w_k_01, w_e118]
        by_cases h4 : w_k_wi m 0 3
        · rw [w_k_ift h4, w_k_bs, if_neg w_k_01]
          unfold f84_23
          rw [w_e116t, w_k_tbl]
          simp only [H.1.1, if_pos (show w_k_wi k 0 5 ∧ w_k_wi d 0 999 ∧ w_k_wi t 0 999 ∧ w_k_wi m 0 3 from ⟨h1, h2, h3, h4⟩)]
          rw [w_k_hcI hV]
          by_cases h13 : w_k_hc V = 13
          · simp only [if_pos h13]
            rw [h13, if_neg (by decide)]
            exact ⟨s, rfl, H, fun _ _ => rfl⟩
          · simp only [if_neg h13]
            obtain ⟨c, hc⟩ : ∃ c, w_k_hc V = c + 1 := ⟨w_k_hc V - 1, by have := hV.1.2.1; omega⟩
            have hc13 : c + 1 < 13 := by omega
            obtain ⟨g1, g2, g3, g4⟩ := H.2.1 c (by omega)
            rw [if_pos (show nI (w_k_hc V) < 13 from (w_k_lt (b := 13) (by omega) (by omega)).2 (by omega)), hc, w_k_m1, if_pos (w_k_hin (by omega)), if_pos (w_k_hin (by omega)), w_k_nat (by omega), w_k_nat (by omega), show 28 + c = 22 + 6 + c from rfl, g1 1 (by omega)]
            have hcond : (d < (if c = 0 then -1 else V (10 + 12 * c + 1))) ↔ (1 < c + 1 ∧ d < V (11 + 12 * (c + 1 - 1))) := by
              by_cases e : c = 0
              · subst e
                rw [if_pos rfl]
                refine ⟨fun h => ?_, fun h => absurd h.1 (by omega)⟩
                exfalso
                have h5 := h2.1
                rw [Int32.lt_iff_toInt_lt] at h h5
                have h6 : (-1 : Int32).toInt = -1 := rfl
                have h7 : (0 : Int32).toInt = 0 := rfl
                omega
              · rw [if_neg e, show 10 + 12 * c + 1 = 11 + 12 * (c + 1 - 1) by omega]
                exact ⟨fun h => ⟨by omega, h⟩, fun h => h.2⟩
            by_cases hd : 1 < c + 1 ∧ d < V (11 + 12 * (c + 1 - 1))
            · rw [if_pos (hcond.2 hd), if_pos hd]
              exact ⟨s, rfl, H, fun _ _ => rfl⟩
            · rw [if_neg (fun h => hd (hcond.1 h)), if_neg hd]
              unfold f23 f84_73
              simp only [w_k_let, w_k_bs]
              have hcv : V 0 = nI (c + 1) := by rw [← hc]; exact w_k_hcI hV
              have key : ∀ (l : Int32), ∃ u, some (Sum.inl (β := Nat) ((g_w (g_w (g_w (g_w (g_w (g_w (g_w (g_w (g_w (g_w (g_w (g_w (g_w (g_w s (28 + (c + 1)) 0 (-1)) (28 + (c + 1)) 1 (-1)) (28 + (c + 1)) 2 (-1)) (28 + (c + 1)) 3 (-1)) (28 + (c + 1)) 4 (-1)) (28 + (c + 1)) 5 9999) (28 + (c + 1)) 6 0) (28 + (c + 1)) 7 0) (28 + (c + 1)) 0 k) (28 + (c + 1)) 1 d) (28 + (c + 1)) 2 t) (28 + (c + 1)) 3 m) (28 + (c + 1)) 4 l) 22 1 (nI (c + 1) + 1)) 22 1 - 1), (g_w (g_w (g_w (g_w (g_w (g_w (g_w (g_w (g_w (g_w (g_w (g_w (g_w (g_w s (28 + (c + 1)) 0 (-1)) (28 + (c + 1)) 1 (-1)) (28 + (c + 1)) 2 (-1)) (28 + (c + 1)) 3 (-1)) (28 + (c + 1)) 4 (-1)) (28 + (c + 1)) 5 9999) (28 + (c + 1)) 6 0) (28 + (c + 1)) 7 0) (28 + (c + 1)) 0 k) (28 + (c + 1)) 1 d) (28 + (c + 1)) 2 t) (28 + (c + 1)) 3 m) (28 + (c + 1)) 4 l) 22 1 (nI (c + 1) + 1))) = some (.inl (nI (c + 1)), u) ∧ w_k_CV u 22 (w_k_pas V (c + 1) (w_k_new k d t m l)) ∧ ∀ x, ¬ (22 ≤ x ∧ x ≤ 48) → u x = s x := by
                intro l
                refine ⟨_, by rw [w_k_wv, w_k_s1, w_k_m1], ⟨⟨?_, ?_, ?_, ?_, ?_, ?_, ?_⟩, fun h hh => ?_, fun q i hq hi => ?_, fun p hp => ?_⟩, fun x hx => ?_⟩
                · rw [w_k_wv, w_k_pas0, hcv, w_k_s1]
                · simp (disch := omega) only [w_k_wq, w_k_pasn]; exact H.1.2.1
                · simp (disch := omega) only [w_k_wq, w_k_pasn]; exact H.1.2.2.1
                · simp (disch := omega) only [w_k_wq, w_k_pasn]; exact H.1.2.2.2.1
                · simp (disch := omega) only [w_k_wq, w_k_pasn]; exact H.1.2.2.2.2.1
                · simp (disch := omega) only [w_k_wq, w_k_pasn]; exact H.1.2.2.2.2.2.1
                · simp (disch := omega) only [w_k_wq, w_k_pasn]; exact H.1.2.2.2.2.2.2
                · rw [w_k_pash hV] at hh
                  by_cases e : h = c + 1
                  · subst e
                    rw [show 22 + 6 + (c + 1) = 28 + (c + 1) from rfl]
                    refine ⟨fun i hi => ?_, ?_, ?_, 0, by omega, ?_, fun f hf => ?_⟩
                    · rw [if_neg (by omega), w_k_pase (i := i) (by omega) (by omega)]
                      match i, hi with
                      | 0, _ => simp (disch := omega) only [w_k_wq, w_k_wv]; rfl
                      | 1, _ => simp (disch := omega) only [w_k_wq, w_k_wv]; rfl
                      | 2, _ => simp (disch := omega) only [w_k_wq, w_k_wv]; rfl
                      | 3, _ => simp (disch := omega) only [w_k_wq, w_k_wv]; rfl
                      | 4, _ => simp (disch := omega) only [w_k_wq, w_k_wv]; rfl
                    · rw [w_k_pase (i := 5) (by omega) (by omega)]; simp (disch := omega) only [w_k_wq, w_k_wv]; rfl
                    · rw [w_k_pase (i := 6) (by omega) (by omega)]; simp (disch := omega) only [w_k_wq, w_k_wv]; rfl
                    · simp (disch := omega) only [w_k_wq, w_k_wv]; rfl
                    · rw [w_k_pase (i := 7 + f) (by omega) (by omega)]
                      unfold w_k_new
                      rw [if_neg (by omega), if_neg (by omega), if_neg (by omega), if_neg (by omega), if_neg (by omega), if_neg (by omega), Nat.zero_testBit]; rfl
                  · refine w_k_CH_cg (s := s) (V := V) ?_ (fun j _ _ => w_k_pasn (by omega) (by omega)) (H.2.1 h (by omega))
                    simp (disch := omega) only [w_k_wn]
                · have w_e5 : w_k_qc (w_k_pas V (c + 1) (w_k_new k d t m l)) = w_k_qc V := congrArg Int32.toNatClampNeg (w_k_pasn (by omega) (by omega))
                  rw [w_e5] at hq
                  simp (disch := omega) only [w_k_wn, w_k_pasn]; exact H.2.2.1 q i hq hi
                · have e6 : w_k_pc (w_k_pas V (c + 1) (w_k_new k d t m l)) = w_k_pc V := congrArg Int32.toNatClampNeg (w_k_pasn (by omega) (by omega))
                  rw [e6] at hp
                  simp (disch := omega) only [w_k_wn, w_k_pasn]; exact H.2.2.2 p hp
                · simp (disch := omega) only [w_k_wn]
              have hcc : (g_w (g_w (g_w (g_w (g_w (g_w (g_w (g_w (g_w (g_w (g_w (g_w s (28 + (c + 1)) 0 (-1)) (28 + (c + 1)) 1 (-1)) (28 + (c + 1)) 2 (-1)) (28 + (c + 1)) 3 (-1)) (28 + (c + 1)) 4 (-1)) (28 + (c + 1)) 5 9999) (28 + (c + 1)) 6 0) (28 + (c + 1)) 7 0) (28 + (c + 1)) 0 k) (28 + (c + 1)) 1 d) (28 + (c + 1)) 2 t) (28 + (c + 1)) 3 m) 22 1 = nI (c + 1) := by
                simp (disch := omega) only [w_k_wq]; rw [H.1.1, hcv]
              rcases w_k_isb hl with rfl | rfl
              · rw [if_pos rfl]
                simp (disch := omega) only [w_k_wq] at hcc ⊢
                rw [hcc]
                exact key 0
              · rw [if_neg w_k_01]
                simp (disch := omega) only [w_k_wq] at hcc ⊢
                rw [hcc]
                exact key 1
        · rw [w_k_iff h4, w_k_bs, if_pos rfl, if_neg (fun h => h4 h.2.2.2)]
          exact ⟨s, rfl, H, fun _ _ => rfl⟩
      · rw [w_k_iff h3, w_k_bs, if_pos rfl, if_neg (fun h => h3 h.2.2.1)]
        exact ⟨s, rfl, H, fun _ _ => rfl⟩
    · rw [w_k_iff h2, w_k_bs, if_pos rfl, if_neg (fun h => h2 h.2.1)]
      exact ⟨s, rfl, H, fun _ _ => rfl⟩
  · rw [w_e118, w_k_iff h1, w_k_bs, if_pos rfl, if_neg (fun h => h1 h.1)]
    exact ⟨s, rfl, H, fun _ _ => rfl⟩
theorem w_k_nlt {a b : Nat} (ha : a < 2147483648) (hb : b < 2147483648) (h : ¬ a < b) : ¬ nI a < nI b := fun e => h ((w_k_lt ha hb).1 e)
theorem w_e172 {s : g_S} {V : w_k_V} {k d t m l : Int32} {n : Nat} (hV : w_k_Vok n V) (H : w_k_MV s V) (hl : m_isb l = true) (h1 : w_k_wi k 0 5) (h2 : w_k_wi d 0 999) (h3 : w_k_wi t 0 999) (h4 : w_k_wi m 0 3) (h0 : s 199 0 = 0) :
    ∃ u v, f172_27 s k d t m l 0 = some (v, u) ∧ w_k_MV u (w_a_pass V k d t m l).2 ∧ (w_a_pass V k d t m l).1 = .inl v ∧ (∀ x b, ¬ ((x = 199 ∧ b = 26) ∨ x = 222 ∨ x = 223 ∨ (209 ≤ x ∧ x < 222) ∨ (225 ≤ x ∧ x < 238)) → u x b = s x b) := by
  have hb := w_k_Vb hV
  have hd1 := hV.1.2.1
  unfold f172_27 w_a_pass
  rw [w_e134o h0, w_k_bd, if_pos rfl, H.1.1, if_pos (show w_k_wi k 0 5 ∧ w_k_wi d 0 999 ∧ w_k_wi t 0 999 ∧ w_k_wi m 0 3 from ⟨h1, h2, h3, h4⟩)]
  rw [w_k_hcI hV]
  by_cases h13 : w_k_hc V = 13
  · simp only [if_pos h13]
    rw [if_pos (by rw [h13]; rfl)]
    exact ⟨s, _, rfl, H, rfl, fun _ _ _ => rfl⟩
  · simp only [if_neg h13]
    obtain ⟨c, hc⟩ : ∃ c, w_k_hc V = c + 1 := ⟨w_k_hc V - 1, by omega⟩
    have hcv : V 0 = nI (c + 1) := by rw [← hc]; exact w_k_hcI hV
    rw [if_neg (show ¬ nI (w_k_hc V) = 13 from fun e => h13 ((w_k_eq (b := 13) (by omega) (by omega)).1 e)), hc, w_k_m1]
    have key : ∃ u, f172_55 s k d t m l = some (nI (c + 1), u) ∧ w_k_MV u (w_k_pas V (c + 1) (w_k_new k d t m l)) ∧ (∀ x b, ¬ ((x = 199 ∧ b = 26) ∨ x = 222 ∨ x = 223 ∨ (209 ≤ x ∧ x < 222) ∨ (225 ≤ x ∧ x < 238)) → u x b = s x b) := by
      have hin : m_in (nI (c + 1)) 13 = true := w_k_hin (by omega)
      have hn : (nI (c + 1)).toNatClampNeg = c + 1 := w_k_nat (by omega)
      unfold f172_55
      simp (disch := omega) only [H.1.1, hcv, w_k_let, hin, hn, w_k_wq, if_true]
      unfold f172_98
      simp (disch := omega) only [H.1.1, hcv, w_k_let, hin, hn, w_k_wq, if_true]
      have i0 : m_in 0 4 = true := rfl
      have i1 : m_in (0 + 1) 4 = true := rfl
      have i2 : m_in (0 + 1 + 1) 4 = true := rfl
      have i3 : m_in (0 + 1 + 1 + 1) 4 = true := rfl
      have l0 : (0 : Int32) < 4 := by decide
      have l1 : (0 + 1 : Int32) < 4 := by decide
      have l2 : (0 + 1 + 1 : Int32) < 4 := by decide
      have l3 : (0 + 1 + 1 + 1 : Int32) < 4 := by decide
      have l4 : ¬ (0 + 1 + 1 + 1 + 1 : Int32) < 4 := by decide
      have n0 : (0 : Int32).toNatClampNeg = 0 := rfl
      have n1 : (0 + 1 : Int32).toNatClampNeg = 1 := rfl
      have n2 : (0 + 1 + 1 : Int32).toNatClampNeg = 2 := rfl
      have n3 : (0 + 1 + 1 + 1 : Int32).toNatClampNeg = 3 := rfl
      have key : ∀ (l : Int32), ∃ u, f172_113L (g_w (g_w (g_w (g_w (g_w (g_w (g_w s (209 + (c + 1)) 0 k) (209 + (c + 1)) 1 d) (209 + (c + 1)) 2 t) (209 + (c + 1)) 3 m) (209 + (c + 1)) 4 l) 222 (c + 1) 9999) 223 (c + 1) 0) k d t m l 0 = some (nI (c + 1), u) ∧ w_k_MV u (w_k_pas V (c + 1) (w_k_new k d t m l)) ∧ (∀ x b, ¬ ((x = 199 ∧ b = 26) ∨ x = 222 ∨ x = 223 ∨ (209 ≤ x ∧ x < 222) ∨ (225 ≤ x ∧ x < 238)) → u x b = s x b) := by
        intro l
        rw [f172_113L_eq]; unfold f172_113
        simp (disch := omega) only [H.1.1, hcv, w_k_let, hin, hn, w_k_wq, if_true, i0, l0, n0, g_st]
        rw [f172_113L_eq]; unfold f172_113
        simp (disch := omega) only [H.1.1, hcv, w_k_let, hin, hn, w_k_wq, if_true, i1, l1, n1, g_st]
        rw [f172_113L_eq]; unfold f172_113
        simp (disch := omega) only [H.1.1, hcv, w_k_let, hin, hn, w_k_wq, if_true, i2, l2, n2, g_st]
        rw [f172_113L_eq]; unfold f172_113
        simp (disch := omega) only [H.1.1, hcv, w_k_let, hin, hn, w_k_wq, if_true, i3, l3, n3, g_st]
        rw [f172_113L_eq]; unfold f172_113 f172_126
        simp (disch := omega) only [H.1.1, hcv, w_k_let, hin, hn, w_k_wq, if_false, l4, g_st, Option.map]
        rw [w_k_wv, w_k_s1, w_k_m1]
        refine ⟨_, rfl, ⟨⟨?_, ?_, ?_, ?_, ?_, ?_, ?_, ?_⟩, fun h i hh hi => ?_, fun h hh => ?_, fun h f hh hf => ?_, fun q i hq hi => ?_, fun p hp => ?_⟩, fun x b hx => ?_⟩
        · rw [w_k_wv, w_k_pas0, hcv, w_k_s1]
        · simp (disch := omega) only [w_k_wq, w_k_pasn]; exact H.1.2.1
        · simp (disch := omega) only [w_k_wq, w_k_pasn]; exact H.1.2.2.1
        · simp (disch := omega) only [w_k_wq, w_k_pasn]; exact H.1.2.2.2.1
        · simp (disch := omega) only [w_k_wq, w_k_pasn]; exact H.1.2.2.2.2.1
        · simp (disch := omega) only [w_k_wq, w_k_pasn]; exact H.1.2.2.2.2.2.1
        · simp (disch := omega) only [w_k_wq, w_k_pasn]; exact H.1.2.2.2.2.2.2.1
        · simp (disch := omega) only [w_k_wq, w_k_pasn]; exact H.1.2.2.2.2.2.2.2
        · by_cases e : h = c + 1
          · subst e
            rw [w_k_pase (i := i) (by omega) (by omega)]
            match i, hi with
            | 0, _ => simp (disch := omega) only [w_k_wq, w_k_wv]; rfl
            | 1, _ => simp (disch := omega) only [w_k_wq, w_k_wv]; rfl
            | 2, _ => simp (disch := omega) only [w_k_wq, w_k_wv]; rfl
            | 3, _ => simp (disch := omega) only [w_k_wq, w_k_wv]; rfl
            | 4, _ => simp (disch := omega) only [w_k_wq, w_k_wv]; rfl
          · simp (disch := omega) only [w_k_wq, w_k_pasn]; exact H.2.1 h i hh hi
        · by_cases e : h = c + 1
          · subst e
            rw [w_k_pase (j := 15 + 12 * (c + 1)) (i := 5) (by omega) (by omega), w_k_pase (j := 16 + 12 * (c + 1)) (i := 6) (by omega) (by omega)]
            simp (disch := omega) only [w_k_wq, w_k_wv]; exact ⟨rfl, rfl⟩
          · simp (disch := omega) only [w_k_wq, w_k_pasn]; exact H.2.2.1 h hh
        · by_cases e : h = c + 1
          · subst e
            rw [w_k_pase (i := 7 + f) (by omega) (by omega)]
            match f, hf with
            | 0, _ => simp (disch := omega) only [w_k_wq, w_k_wv]; rfl
            | 1, _ => simp (disch := omega) only [w_k_wq, w_k_wv]; rfl
            | 2, _ => simp (disch := omega) only [w_k_wq, w_k_wv]; rfl
            | 3, _ => simp (disch := omega) only [w_k_wq, w_k_wv]; rfl
          · simp (disch := omega) only [w_k_wq, w_k_pasn]; exact H.2.2.2.1 h f hh hf
        · simp (disch := omega) only [w_k_wq, w_k_pasn]; exact H.2.2.2.2.1 q i hq hi
        · simp (disch := omega) only [w_k_wq, w_k_pasn]; exact H.2.2.2.2.2 p hp
        · simp (disch := omega) only [w_k_wq]
      rcases w_k_isb hl with rfl | rfl
      · rw [if_pos rfl]; exact key 0
      · rw [if_neg w_k_01]; exact key 1
    by_cases hd : 1 < c + 1 ∧ d < V (11 + 12 * (c + 1 - 1))
    · rw [if_pos hd, if_pos (show (1 : Int32) < nI (c + 1) from (w_k_lt (a := 1) (by omega) (by omega)).2 hd.1), if_pos (w_k_hin (by omega)), w_k_nat (by omega), H.2.1 c 1 (by omega) (by omega), show 10 + 12 * c + 1 = 11 + 12 * (c + 1 - 1) by omega, if_pos hd.2]
      exact ⟨s, _, rfl, H, rfl, fun _ _ _ => rfl⟩
    · rw [if_neg hd]
      obtain ⟨u, q1, q2, q3⟩ := key
      refine ⟨u, nI (c + 1), ?_, q2, rfl, q3⟩
      by_cases h1c : 1 < c + 1
      · rw [if_pos (show (1 : Int32) < nI (c + 1) from (w_k_lt (a := 1) (by omega) (by omega)).2 h1c), if_pos (w_k_hin (by omega)), w_k_nat (by omega), H.2.1 c 1 (by omega) (by omega), show 10 + 12 * c + 1 = 11 + 12 * (c + 1 - 1) by omega, if_neg (fun e => hd ⟨h1c, e⟩)]
        exact q1
      · rw [if_neg (show ¬ (1 : Int32) < nI (c + 1) from w_k_nlt (a := 1) (by omega) (by omega) h1c)]
        exact q1
theorem w_c_pass {s : g_S} {A : w_k_A} {k d t m l : Int32} (hA : w_k_Aok A) (hl : m_isb l = true) (H : w_k_CI s A) : w_k_cop s (f84 s k d t m l) (w_a_pass A.2.2.2.1 k d t m l).1 (w_k_sV A (w_a_pass A.2.2.2.1 k d t m l).2) := by
  obtain ⟨u, e, h1, h2⟩ := w_e84 (k := k) (d := d) (t := t) (m := m) hA.2.2.2.1 H.2.2.2.2.1 hl
  exact ⟨_, e, rfl, w_k_CI_V hA (fun x _ _ hx => h2 x hx) H h1, fun y hy => h2 y (by omega)⟩
theorem w_m_pass {TR : w_k_TR} {s : g_S} {A : w_k_A} {k d t m l : Int32} (hA : w_k_Aok A) (hl : m_isb l = true) (H : w_k_MI TR s A) : w_k_mop TR w_k_cI s (f172 s k d t m l) (w_a_pass A.2.2.2.1 k d t m l).1 (w_k_sV A (w_a_pass A.2.2.2.1 k d t m l).2) := by
  have hr : ∀ c : Prop, ¬ (w_k_wi k 0 5 ∧ w_k_wi d 0 999 ∧ w_k_wi t 0 999 ∧ w_k_wi m 0 3) → w_k_mop TR w_k_cI s (f172_24 (g_w s 199 0 0) k d t m l) (w_a_pass A.2.2.2.1 k d t m l).1 (w_k_sV A (w_a_pass A.2.2.2.1 k d t m l).2) := by
    intro _ h
    unfold f172_24 f172_27 w_a_pass
    rw [if_neg h, w_e134b w_k_00 w_k_01, w_k_bd, if_neg w_k_01]
    exact w_m_ref hA H rfl
  unfold f172
  rw [w_k_let, w_e135]
  by_cases h1 : w_k_wi k 0 5
  · rw [w_k_ift h1, w_k_bs, if_neg w_k_01, w_e135]
    by_cases h2 : w_k_wi d 0 999
    · rw [w_k_ift h2, w_k_bs, if_neg w_k_01, w_e135]
      by_cases h3 : w_k_wi t 0 999
      · rw [w_k_ift h3, w_k_bs, if_neg w_k_01, w_e135]
        by_cases h4 : w_k_wi m 0 3
        · rw [w_k_ift h4, w_k_bs, if_neg w_k_01]
          obtain ⟨u, v, e, q1, q2, q3⟩ := w_e172 (s := g_w s 199 0 0) hA.2.2.2.1 (w_k_MV_mk H.2.2.2.1 (fun _ _ => rfl) (fun x h1 h2 => w_k_wn (by omega)) H.2.2.2.1.1) hl h1 h2 h3 h4 w_k_00
          refine ⟨_, e, w_k_MI_V hA (fun x b h1 h2 h3 h4 => ?_) H q1, fun y hy => funext fun b => ?_, fun w hw => ?_, fun x hx => ?_⟩
          · unfold w_k_sM at h3; unfold w_k_ch at h4; dsimp only; rw [q3 x b (by omega), w_k_wq (by omega)]
          · dsimp only; rw [q3 y b (by omega), w_k_wq (by omega)]
          · rw [q2] at hw; cases hw; exact ⟨by dsimp only; rw [q3 199 0 (by omega), w_k_wv], rfl⟩
          · rw [q2] at hx; cases hx
        · rw [w_k_iff h4, w_k_bs, if_pos rfl]; exact hr True (fun h => h4 h.2.2.2)
      · rw [w_k_iff h3, w_k_bs, if_pos rfl]; exact hr True (fun h => h3 h.2.2.1)
    · rw [w_k_iff h2, w_k_bs, if_pos rfl]; exact hr True (fun h => h2 h.2.1)
  · rw [w_k_iff h1, w_k_bs, if_pos rfl]; exact hr True (fun h => h1 h.1)
/-! question -/
def w_k_ask (V : w_k_V) (n : Nat) (q h o : Int32) : w_k_V := fun j => if j = 5 then V 5 + 1 else if j = 170 + 3 * n then q else if j = 171 + 3 * n then h else if j = 172 + 3 * n then o else V j
theorem w_k_ask5 {V : w_k_V} {n : Nat} {q h o : Int32} : w_k_ask V n q h o 5 = V 5 + 1 := rfl
theorem w_k_askn {V : w_k_V} {n j : Nat} {q h o : Int32} (h0 : j ≠ 5) (h1 : j < 170 + 3 * n ∨ 173 + 3 * n ≤ j) : w_k_ask V n q h o j = V j := by
  unfold w_k_ask; rw [if_neg h0, if_neg (by omega), if_neg (by omega), if_neg (by omega)]
theorem w_k_askq {V : w_k_V} {n j : Nat} {q h o : Int32} (e : j = 170 + 3 * n) : w_k_ask V n q h o j = q := by
  unfold w_k_ask; rw [if_neg (by omega), if_pos e]
theorem w_k_askh {V : w_k_V} {n j : Nat} {q h o : Int32} (e : j = 171 + 3 * n) : w_k_ask V n q h o j = h := by
  unfold w_k_ask; rw [if_neg (by omega), if_neg (by omega), if_pos e]
theorem w_k_asko {V : w_k_V} {n j : Nat} {q h o : Int32} (e : j = 172 + 3 * n) : w_k_ask V n q h o j = o := by
  unfold w_k_ask; rw [if_neg (by omega), if_neg (by omega), if_neg (by omega), if_pos e]
abbrev w_k_qok (V : w_k_V) (q h o : Int32) : Prop := (w_k_wi q 0 3 ∧ w_k_wi h 0 (V 0 - 1)) ∨ (q = 4 ∧ w_k_wi o 0 5) ∨ (q = 5 ∧ w_k_wi o 0 999)
def w_a_quest (V : w_k_V) (q h o : Int32) : (Int32 ⊕ Nat) × w_k_V :=
  if w_k_qok V q h o then (if w_k_qc V = 8 then (.inl (-1), V) else (.inl (V 5), w_k_ask V (w_k_qc V) q h o)) else if w_k_wi q 0 3 then (.inr 1, V) else (.inr 0, V)
theorem w_k_qcI {n : Nat} {V : w_k_V} (h : w_k_Vok n V) : V 5 = nI (w_k_qc V) := h.2.1.1
theorem w_k_pcI {n : Nat} {V : w_k_V} (h : w_k_Vok n V) : V 6 = nI (w_k_pc V) := h.2.2.1.1
theorem w_k_wi4 {q : Int32} : w_k_wi q 0 5 ↔ w_k_wi q 0 3 ∨ q = 4 ∨ q = 5 := by
  unfold w_k_wi
  rw [← Int32.toInt_inj, ← Int32.toInt_inj, Int32.lt_iff_toInt_lt, Int32.lt_iff_toInt_lt, Int32.lt_iff_toInt_lt]
  have h0 : (0 : Int32).toInt = 0 := rfl
  have h3 : (3 : Int32).toInt = 3 := rfl
  have h4 : (4 : Int32).toInt = 4 := rfl
  have h5 : (5 : Int32).toInt = 5 := rfl
  rw [h0, h3, h4, h5]; omega
theorem w_k_wi3l {q : Int32} (h : w_k_wi q 0 3) : q < 4 ∧ q ≠ 4 ∧ q ≠ 5 := by
  obtain ⟨i, hi, rfl⟩ := w_k_iL 3 h rfl (by omega)
  have := w_k_lt (a := i) (b := 4) (by omega) (by omega)
  refine ⟨this.2 (by omega), fun e => ?_, fun e => ?_⟩
  · have := (w_k_eq (b := 4) (by omega) (by omega)).1 e; omega
  · have := (w_k_eq (b := 5) (by omega) (by omega)).1 e; omega
theorem w_v_quest {n : Nat} {V : w_k_V} {q h o : Int32} (H : w_k_Vok n V) : w_k_Vok n (w_a_quest V q h o).2 := by
  unfold w_a_quest
  by_cases hg : w_k_qok V q h o
  · rw [if_pos hg]
    by_cases h8 : w_k_qc V = 8
    · rw [if_pos h8]; exact H
    · rw [if_neg h8]
      have hb := w_k_Vb H
      have hc := w_k_qcI H
      obtain ⟨a1, a2, a3, a4, a5, a6, a7, a8, a9, b1, b2, b3, b4⟩ := H
      dsimp only
      have e0 : w_k_hc (w_k_ask V (w_k_qc V) q h o) = w_k_hc V := congrArg Int32.toNatClampNeg (w_k_askn (by omega) (by omega))
      have w_e5 : w_k_qc (w_k_ask V (w_k_qc V) q h o) = w_k_qc V + 1 := by
        unfold w_k_qc; rw [w_k_ask5, hc, w_k_s1, w_k_nat (by omega), w_k_nat (by omega)]
      have e6 : w_k_pc (w_k_ask V (w_k_qc V) q h o) = w_k_pc V := congrArg Int32.toNatClampNeg (w_k_askn (by omega) (by omega))
      unfold w_k_Vok
      rw [e0, w_e5, e6, w_k_ask5, w_k_askn (j := 0) (by omega) (by omega), w_k_askn (j := 6) (by omega) (by omega), w_k_askn (j := 2) (by omega) (by omega), w_k_askn (j := 3) (by omega) (by omega), w_k_askn (j := 4) (by omega) (by omega), w_k_askn (j := 7) (by omega) (by omega), w_k_askn (j := 1) (by omega) (by omega),
        w_k_sum_cg (V := V) _ (fun q _ => w_k_askn (by omega) (by omega))]
      refine ⟨a1, ⟨?_, by omega⟩, a3, a4, a5, a6, a7, fun h h1 h2 => ?_, fun h f h1 h2 => ?_, fun r hq => ?_, fun p hp => ?_, b3, fun h h2 => ?_⟩
      · rw [hc, w_k_s1]
      · rw [w_k_askn (by omega) (by omega), w_k_askn (by omega) (by omega), w_k_askn (by omega) (by omega)]
        exact a8 h h1 h2
      · rw [w_k_askn (by omega) (by omega)]
        exact a9 h f h1 h2
      · by_cases e : r = w_k_qc V
        · subst e
          rw [w_k_askq rfl, w_k_askh rfl, w_k_asko rfl]
          rcases hg with ⟨g1, g2⟩ | ⟨rfl, g2⟩ | ⟨rfl, g2⟩
          · exact ⟨w_k_wi4.2 (Or.inl g1), fun _ => g2, fun e => absurd e (w_k_wi3l g1).2.1, fun e => absurd e (w_k_wi3l g1).2.2⟩
          · exact ⟨by decide, fun e => absurd e (by decide), fun _ => g2, fun e => absurd e (by decide)⟩
          · exact ⟨by decide, fun e => absurd e (by decide), fun e => absurd e (by decide), fun _ => g2⟩
        · rw [w_k_askn (by omega) (by omega), w_k_askn (by omega) (by omega), w_k_askn (by omega) (by omega)]
          exact b1 r (by omega)
      · rw [w_k_askn (by omega) (by omega)]; exact b2 p hp
      · rw [w_k_askn (by omega) (by omega)]; exact b4 h h2
  · rw [if_neg hg]; split <;> exact H
theorem w_e5 {s : g_S} {V : w_k_V} {q h o : Int32} {n : Nat} (hV : w_k_Vok n V) (H : w_k_CV s 22 V) :
    ∃ u v, f98_26 s q h o = some (.inl v, u) ∧ w_k_CV u 22 (if w_k_qc V = 8 then V else w_k_ask V (w_k_qc V) q h o) ∧ v = (if w_k_qc V = 8 then -1 else V 5) ∧ ∀ x, ¬ (22 ≤ x ∧ x ≤ 48) → u x = s x := by
  have hb := w_k_Vb hV
  have hc := w_k_qcI hV
  unfold f98_26 f5
  rw [H.1.2.2.2.2.2.1, hc]
  by_cases h8 : w_k_qc V = 8
  · simp only [if_pos h8]
    rw [h8, if_neg (by decide)]
    exact ⟨s, _, rfl, H, rfl, fun _ _ => rfl⟩
  · simp only [if_neg h8]
    rw [if_pos (show nI (w_k_qc V) < 8 from (w_k_lt (b := 8) (by omega) (by omega)).2 (by omega)), if_pos ((w_k_inI (by omega)).2 (by omega)), w_k_nat (by omega)]
    simp (disch := omega) only [w_k_let, w_k_wq, H.1.2.2.2.2.2.1]
    refine ⟨_, _, rfl, ⟨⟨?_, ?_, ?_, ?_, ?_, ?_, ?_⟩, fun g hh => ?_, fun r i hq hi => ?_, fun p hp => ?_⟩, ?_, fun x hx => ?_⟩
    · simp (disch := omega) only [w_k_wq, w_k_askn]; exact H.1.1
    · simp (disch := omega) only [w_k_wq, w_k_askn]; exact H.1.2.1
    · simp (disch := omega) only [w_k_wq, w_k_askn]; exact H.1.2.2.1
    · simp (disch := omega) only [w_k_wq, w_k_askn]; exact H.1.2.2.2.1
    · simp (disch := omega) only [w_k_wq, w_k_askn]; exact H.1.2.2.2.2.1
    · simp only [w_k_wv, w_k_ask5]
    · simp (disch := omega) only [w_k_wq, w_k_askn]; exact H.1.2.2.2.2.2.2
    · have e0 : w_k_hc (w_k_ask V (w_k_qc V) q h o) = w_k_hc V := congrArg Int32.toNatClampNeg (w_k_askn (by omega) (by omega))
      rw [e0] at hh
      exact w_k_CH_cg (by simp (disch := omega) only [w_k_wn]) (fun j _ _ => w_k_askn (by omega) (by omega)) (H.2.1 g hh)
    · have w_e5 : w_k_qc (w_k_ask V (w_k_qc V) q h o) = w_k_qc V + 1 := by
        unfold w_k_qc; rw [w_k_ask5, hc, w_k_s1, w_k_nat (by omega), w_k_nat (by omega)]
      rw [w_e5] at hq
      by_cases e : r = w_k_qc V
      · subst e
        match i, hi with
        | 0, _ => simp (disch := omega) only [w_k_wq, w_k_wv, Nat.add_zero]; exact (w_k_askq (by omega)).symm
        | 1, _ => simp (disch := omega) only [w_k_wq, w_k_wv, Nat.add_zero]; exact (w_k_askh (by omega)).symm
        | 2, _ => simp (disch := omega) only [w_k_wq, w_k_wv, Nat.add_zero]; exact (w_k_asko (by omega)).symm
      · simp (disch := omega) only [w_k_wq, w_k_askn]; exact H.2.2.1 r i (by omega) hi
    · have e6 : w_k_pc (w_k_ask V (w_k_qc V) q h o) = w_k_pc V := congrArg Int32.toNatClampNeg (w_k_askn (by omega) (by omega))
      rw [e6] at hp
      simp (disch := omega) only [w_k_wn, w_k_askn]; exact H.2.2.2 p hp
    · simp (disch := omega) only [w_k_wq, w_k_wv]; rw [hc, w_k_s1, w_k_m1]
    · simp (disch := omega) only [w_k_wn]
theorem w_c_quest {s : g_S} {A : w_k_A} {q h o : Int32} (hA : w_k_Aok A) (H : w_k_CI s A) : w_k_cop s (f98 s q h o) (w_a_quest A.2.2.2.1 q h o).1 (w_k_sV A (w_a_quest A.2.2.2.1 q h o).2) := by
  have hV := hA.2.2.2.1
  have hv := H.2.2.2.2.1
  have good : w_k_qok A.2.2.2.1 q h o → w_k_cop s (f98_26 s q h o) (w_a_quest A.2.2.2.1 q h o).1 (w_k_sV A (w_a_quest A.2.2.2.1 q h o).2) := by
    intro hg
    obtain ⟨u, v, w_e1, h1, h2, h3⟩ := w_e5 (q := q) (h := h) (o := o) hV hv
    refine ⟨_, w_e1, ?_, w_k_CI_V hA (fun x _ _ hx => h3 x hx) H ?_, fun y hy => h3 y (by omega)⟩
    · unfold w_a_quest; rw [if_pos hg, h2]; split <;> rfl
    · unfold w_a_quest; rw [if_pos hg]; split <;> rename_i h8
      · rw [if_pos h8] at h1; exact h1
      · rw [if_neg h8] at h1; exact h1
  have bad0 : ¬ w_k_qok A.2.2.2.1 q h o → ¬ w_k_wi q 0 3 → w_k_cop s (f98_24 s q h o) (w_a_quest A.2.2.2.1 q h o).1 (w_k_sV A (w_a_quest A.2.2.2.1 q h o).2) := by
    intro h1 h2
    unfold f98_24 f98_25 w_a_quest
    rw [w_e116f, if_neg h1, if_neg h2]
    exact w_ok_some ⟨rfl, H, fun _ _ => rfl⟩
  unfold f98
  rw [w_e118, w_k_bs]
  by_cases h1 : w_k_wi q 0 3
  · rw [w_k_ift h1, if_neg w_k_01]
    by_cases h2 : w_k_wi h 0 (A.2.2.2.1 0 - 1)
    · rw [w_e117t (by rw [hv.1.1]; exact h2), w_k_tbl]
      exact good (Or.inl ⟨h1, h2⟩)
    · rw [w_e117f (by rw [hv.1.1]; exact h2)]
      have hn : ¬ w_k_qok A.2.2.2.1 q h o := by
        rintro (g | ⟨g, _⟩ | ⟨g, _⟩)
        · exact h2 g.2
        · exact (w_k_wi3l h1).2.1 g
        · exact (w_k_wi3l h1).2.2 g
      unfold w_a_quest
      rw [if_neg hn, if_pos h1]
      exact w_ok_some ⟨rfl, H, fun _ _ => rfl⟩
  · rw [w_k_iff h1, if_pos rfl]
    unfold f98_15 f98_22
    by_cases h4 : q = 4
    · rw [if_pos h4, w_e118, w_k_bs]
      by_cases h5 : w_k_wi o 0 5
      · rw [w_k_ift h5, if_neg w_k_01]
        unfold f98_25
        rw [w_e116t, w_k_tbl]
        exact good (Or.inr (Or.inl ⟨h4, h5⟩))
      · rw [w_k_iff h5, if_pos rfl, if_neg (by rw [h4]; decide)]
        refine bad0 ?_ h1
        rintro (g | ⟨_, g⟩ | ⟨g, _⟩)
        · exact h1 g.1
        · exact h5 g
        · rw [h4] at g; exact absurd g (by decide)
    · rw [if_neg h4]
      by_cases h6 : q = 5
      · rw [if_pos h6, w_e118, w_k_bs]
        by_cases h5 : w_k_wi o 0 999
        · rw [w_k_ift h5, if_neg w_k_01]
          unfold f98_25
          rw [w_e116t, w_k_tbl]
          exact good (Or.inr (Or.inr ⟨h6, h5⟩))
        · rw [w_k_iff h5, if_pos rfl]
          refine bad0 ?_ h1
          rintro (g | ⟨g, _⟩ | ⟨_, g⟩)
          · exact h1 g.1
          · exact h4 g
          · exact h5 g
      · rw [if_neg h6]
        refine bad0 ?_ h1
        rintro (g | ⟨g, _⟩ | ⟨g, _⟩)
        · exact h1 g.1
        · exact h4 g
        · exact h6 g
theorem w_e192 {s : g_S} {V : w_k_V} {q h o : Int32} {n : Nat} (hV : w_k_Vok n V) (H : w_k_MV s V) (h0 : s 199 0 = 0) :
    ∃ u v, f192_44 s q h o 0 = some (v, u) ∧ w_k_MV u (if w_k_qc V = 8 then V else w_k_ask V (w_k_qc V) q h o) ∧ v = (if w_k_qc V = 8 then -1 else V 5) ∧ ∀ x b, ¬ ((x = 199 ∧ b = 43) ∨ (260 ≤ x ∧ x < 268)) → u x b = s x b := by
  have hb := w_k_Vb hV
  have hc := w_k_qcI hV
  have h5 : s 199 43 = nI (w_k_qc V) := by rw [H.1.2.2.2.2.2.1, hc]
  unfold f192_44
  rw [w_e134o h0, w_k_bd, if_pos rfl, h5]
  by_cases h8 : w_k_qc V = 8
  · simp only [if_pos h8]
    rw [h8, if_pos (show nI 8 = 8 from rfl)]
    exact ⟨s, _, rfl, H, rfl, fun _ _ _ => rfl⟩
  · simp only [if_neg h8]
    have hin : m_in (nI (w_k_qc V)) 8 = true := (w_k_inI (by omega)).2 (by omega)
    have hn : (nI (w_k_qc V)).toNatClampNeg = w_k_qc V := w_k_nat (by omega)
    rw [if_neg (show ¬ nI (w_k_qc V) = 8 from fun e => h8 ((w_k_eq (b := 8) (by omega) (by omega)).1 e))]
    simp (disch := omega) only [w_k_let, w_k_wq, h5, hin, hn, if_true]
    refine ⟨_, _, rfl, ⟨⟨?_, ?_, ?_, ?_, ?_, ?_, ?_, ?_⟩, fun h i hh hi => ?_, fun h hh => ?_, fun h f hh hf => ?_, fun r i hq hi => ?_, fun p hp => ?_⟩, ?_, fun x b hx => ?_⟩
    · simp (disch := omega) only [w_k_wq, w_k_askn]; exact H.1.1
    · simp (disch := omega) only [w_k_wq, w_k_askn]; exact H.1.2.1
    · simp (disch := omega) only [w_k_wq, w_k_askn]; exact H.1.2.2.1
    · simp (disch := omega) only [w_k_wq, w_k_askn]; exact H.1.2.2.2.1
    · simp (disch := omega) only [w_k_wq, w_k_askn]; exact H.1.2.2.2.2.1
    · simp only [w_k_wv, w_k_ask5]; rw [hc]
    · simp (disch := omega) only [w_k_wq, w_k_askn]; exact H.1.2.2.2.2.2.2.1
    · simp (disch := omega) only [w_k_wq, w_k_askn]; exact H.1.2.2.2.2.2.2.2
    · simp (disch := omega) only [w_k_wq, w_k_askn]; exact H.2.1 h i hh hi
    · simp (disch := omega) only [w_k_wq, w_k_askn]; exact H.2.2.1 h hh
    · simp (disch := omega) only [w_k_wq, w_k_askn]; exact H.2.2.2.1 h f hh hf
    · by_cases e : r = w_k_qc V
      · subst e
        match i, hi with
        | 0, _ => simp (disch := omega) only [w_k_wq, w_k_wv, Nat.add_zero]; exact (w_k_askq (by omega)).symm
        | 1, _ => simp (disch := omega) only [w_k_wq, w_k_wv]; exact (w_k_askh (by omega)).symm
        | 2, _ => simp (disch := omega) only [w_k_wq, w_k_wv]; exact (w_k_asko (by omega)).symm
      · simp (disch := omega) only [w_k_wq, w_k_askn]; exact H.2.2.2.2.1 r i hq hi
    · simp (disch := omega) only [w_k_wq, w_k_askn]; exact H.2.2.2.2.2 p hp
    · simp (disch := omega) only [w_k_wq, w_k_wv]; rw [hc, w_k_s1, w_k_m1]
    · simp (disch := omega) only [w_k_wq]
theorem w_m_quest {TR : w_k_TR} {s : g_S} {A : w_k_A} {q h o : Int32} (hA : w_k_Aok A) (H : w_k_MI TR s A) : w_k_mop TR w_k_cB s (f192 s q h o) (w_a_quest A.2.2.2.1 q h o).1 (w_k_sV A (w_a_quest A.2.2.2.1 q h o).2) := by
  have hV := hA.2.2.2.1
  have good : w_k_qok A.2.2.2.1 q h o → w_k_mop TR w_k_cB s (f192_44 (g_w s 199 0 0) q h o 0) (w_a_quest A.2.2.2.1 q h o).1 (w_k_sV A (w_a_quest A.2.2.2.1 q h o).2) := by
    intro hg
    obtain ⟨u, v, e, q1, q2, q3⟩ := w_e192 (q := q) (h := h) (o := o) (s := g_w s 199 0 0) hA.2.2.2.1 (w_k_MV_mk H.2.2.2.1 (fun _ _ => rfl) (fun x h1 h2 => w_k_wn (by omega)) H.2.2.2.1.1) w_k_00
    have hr : (w_a_quest A.2.2.2.1 q h o).1 = .inl v := by unfold w_a_quest; rw [if_pos hg, q2]; split <;> rfl
    have hr2 : (w_a_quest A.2.2.2.1 q h o).2 = (if w_k_qc A.2.2.2.1 = 8 then A.2.2.2.1 else w_k_ask A.2.2.2.1 (w_k_qc A.2.2.2.1) q h o) := by unfold w_a_quest; rw [if_pos hg]; split <;> rfl
    rw [hr, hr2]
    refine ⟨_, e, w_k_MI_V hA (fun x b h1 h2 h3 h4 => ?_) H q1, fun y hy => funext fun b => ?_, fun w hw => ?_, fun x hx => by cases hx⟩
    · unfold w_k_sM at h3; unfold w_k_ch at h4; dsimp only; rw [q3 x b (by omega), w_k_wq (by omega)]
    · dsimp only; rw [q3 y b (by omega), w_k_wq (by omega)]
    · cases hw; exact ⟨by dsimp only; rw [q3 199 0 (by omega), w_k_wv], rfl⟩
  have bad0 : ¬ w_k_qok A.2.2.2.1 q h o → ¬ w_k_wi q 0 3 → w_k_mop TR w_k_cB s (f192_44 (g_w s 199 0 0) q h o 1) (w_a_quest A.2.2.2.1 q h o).1 (w_k_sV A (w_a_quest A.2.2.2.1 q h o).2) := by
    intro h1 h2
    unfold f192_44 w_a_quest
    rw [w_e134b w_k_00 w_k_02, if_neg h1, if_neg h2, w_k_bd, if_neg w_k_01]
    exact w_m_ref hA H rfl
  unfold f192
  rw [w_k_let, w_e135, w_k_bs]
  have mid : ∀ (c : w_k_wi q 0 3 → w_k_wi h 0 (A.2.2.2.1 0 - 1)), w_k_mop TR w_k_cB s (f192_16 (g_w s 199 0 0) q h o 0) (w_a_quest A.2.2.2.1 q h o).1 (w_k_sV A (w_a_quest A.2.2.2.1 q h o).2) := by
    intro c
    unfold f192_16
    rw [w_e134o w_k_00, w_k_bd, if_pos rfl, w_e135, w_k_bs]
    by_cases h1 : w_k_wi q 0 3
    · rw [w_k_ift (w_k_wi4.2 (Or.inl h1)), if_neg w_k_01, if_neg (w_k_wi3l h1).2.1]
      unfold f192_33
      rw [if_neg (w_k_wi3l h1).2.2]
      exact good (Or.inl ⟨h1, c h1⟩)
    · by_cases h4 : q = 4
      · rw [w_k_ift (w_k_wi4.2 (Or.inr (Or.inl h4))), if_neg w_k_01, if_pos h4, w_e135, w_k_bs]
        by_cases h5 : w_k_wi o 0 5
        · rw [w_k_ift h5, if_neg w_k_01]
          unfold f192_33
          rw [if_neg (by rw [h4]; decide)]
          exact good (Or.inr (Or.inl ⟨h4, h5⟩))
        · rw [w_k_iff h5, if_pos rfl]
          refine bad0 ?_ h1
          rintro (g | ⟨_, g⟩ | ⟨g, _⟩)
          · exact h1 g.1
          · exact h5 g
          · rw [h4] at g; exact absurd g (by decide)
      · by_cases h6 : q = 5
        · rw [w_k_ift (w_k_wi4.2 (Or.inr (Or.inr h6))), if_neg w_k_01, if_neg h4]
          unfold f192_33
          rw [if_pos h6, w_e135, w_k_bs]
          by_cases h5 : w_k_wi o 0 999
          · rw [w_k_ift h5, if_neg w_k_01]
            exact good (Or.inr (Or.inr ⟨h6, h5⟩))
          · rw [w_k_iff h5, if_pos rfl]
            refine bad0 ?_ h1
            rintro (g | ⟨g, _⟩ | ⟨_, g⟩)
            · exact h1 g.1
            · exact h4 g
            · exact h5 g
        · rw [w_k_iff (fun g => (w_k_wi4.1 g).elim h1 (fun g => g.elim h4 h6)), if_pos rfl]
          refine bad0 ?_ h1
          rintro (g | ⟨g, _⟩ | ⟨g, _⟩)
          · exact h1 g.1
          · exact h4 g
          · exact h6 g
  by_cases h1 : w_k_wi q 0 3
  · rw [w_k_ift h1, if_neg w_k_01, w_e173, w_k_mh H, w_k_bs]
    by_cases h2 : w_k_wi h 0 (A.2.2.2.1 0 - 1)
    · rw [w_k_ift h2, if_neg w_k_01]
      exact mid (fun _ => h2)
    · rw [w_k_iff h2, if_pos rfl]
      have hn : ¬ w_k_qok A.2.2.2.1 q h o := by
        rintro (g | ⟨g, _⟩ | ⟨g, _⟩)
        · exact h2 g.2
        · exact (w_k_wi3l h1).2.1 g
        · exact (w_k_wi3l h1).2.2 g
      unfold f192_16 w_a_quest
      rw [w_e134b w_k_00 w_k_01, if_neg hn, if_pos h1, w_k_bd, if_neg w_k_01]
      exact w_m_ref hA H rfl
  · rw [w_k_iff h1, if_pos rfl]
    exact mid (fun h => absurd h h1)
