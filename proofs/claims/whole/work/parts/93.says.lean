/-! a clause's saying -/
section WS2
variable {T : Nat → Int32} {n : Nat}
theorem w_t_wof3 {p : Nat} (hp : p ≤ n) (hB : ∀ j, j < n → w_k_wi (T j) 0 255) : w_t_wof T n p 3 = if w_t_isw T n p [1, 14, 19, 23, 5, 18, 19] = true then 0 else if w_t_isw T n p [19, 23, 5, 1, 18, 19] = true then 1 else if w_t_isw T n p [15, 23, 5, 19] = true then 2 else if w_t_isw T n p [12, 5, 20, 19] = true then 3 else if w_t_isw T n p [20, 23, 9, 3, 5] = true then 4 else -1 := by
  rw [w_t_wof_fi hp hB (by decide)]; rfl
theorem w_w_wh {p : Nat} (hp : p ≤ n) {ws : List Nat} (hw : (∀ x ∈ ws, 1 ≤ x ∧ x ≤ 26) ∧ ws.length < 7 ∧ w_t_cd ws < 387420489) : (w_t_wh T n p = nI (w_t_cd ws)) ↔ w_t_isw T n p ws = true := w_wh_code hp hw.1 hw.2.1 hw.2.2
theorem w_f4_PB {b : Bool} : w_k_PB (w_q_b b) := w_q_bB b
theorem w_w_says {s : g_S} {p : Nat} {p1 kb mix : Int32} {cs : List w_q_C} (H : w_w_U T n 0 p s) (hG : w_w_G (cs, mix) s) (hP : w_k_PB p1) (h1 : w_w_as s → p1 = w_q_b (w_q_bit kb (s 199 15))) :
    w_OK (f163 s p1) (w_k_WC T n p s cs mix (w_t_says T n kb p)) := by
  have hp := w_w_Up H
  have hB := H.1.2.1
  have hn := H.1.1
  have hxp := w_t_nx_le (T := T) hp.1
  obtain ⟨a, g1, g2, g3⟩ := H.2.2.2
  obtain ⟨s2, q1, q2, q3⟩ := w_e143w H.1 (by omega) (by rw [g3]; exact hp.1) g1
  rw [g3] at q1 q2
  have H2 := w_w_Ua H q3 q2 hp.1 hp.2
  have h2 : w_w_4 s s2 := w_w_a4 q3
  unfold f163
  rw [q1, w_k_bd, show f145 s2 19 23 5 1 18 19 = some (nI (w_t_cd [19, 23, 5, 1, 18, 19])) from rfl, w_k_bs]
  have i1 := w_wh_ans (T := T) hp.1
  have i2 := w_w_wh (T := T) hp.1 (ws := [19, 23, 5, 1, 18, 19]) (by decide)
  have i3 := w_w_wh (T := T) hp.1 (ws := [15, 23, 5, 19]) (by decide)
  have i4 := w_w_wh (T := T) hp.1 (ws := [12, 5, 20, 19]) (by decide)
  have i5 := w_w_wh (T := T) hp.1 (ws := [20, 23, 9, 3, 5]) (by decide)
  have hw3 := w_t_wof3 (T := T) hp.1 hB
  have hkd : ∀ ws : List Nat, ws.length ≠ 0 → w_t_isw T n p ws = true → w_t_kd T n p = 256 := fun ws h0 h => (w_t_te_isw hp.1 hB h h0).2
  unfold f163_15
  by_cases c1 : w_t_isw T n p [1, 14, 19, 23, 5, 18, 19] = true
  · have w_e3 : w_t_wof T n p 3 = 0 := by rw [hw3, if_pos c1]
    have w_e2 : ¬ w_t_wh T n p = nI (w_t_cd [19, 23, 5, 1, 18, 19]) := by rw [i1.2 c1]; decide
    have := w_w_21 (b := false) (p0 := p) H2 q2 (hkd _ (by decide) c1) (Nat.le_refl p) h2 hG h1
    unfold w_t_says
    rw [if_neg w_e2, if_pos (i1.2 c1), w_e3, if_neg (by decide), if_neg (by decide), if_neg (by decide), if_neg (by decide)]
    exact this
  · have n1 : ¬ w_t_wh T n p = -2 := fun h => c1 (i1.1 h)
    rw [if_neg c1] at hw3
    by_cases c2 : w_t_isw T n p [19, 23, 5, 1, 18, 19] = true
    · have w_e3 : w_t_wof T n p 3 = 1 := by rw [hw3, if_pos c2]
      have := w_w_21 (b := true) (p0 := p) H2 q2 (hkd _ (by decide) c2) (Nat.le_refl p) h2 hG h1
      unfold w_t_says
      rw [if_pos (i2.2 c2), if_neg n1, if_neg (show ¬ (1 : Int32) = 0 by decide), w_e3, if_neg (by decide), if_neg (by decide), if_neg (by decide), if_neg (by decide)]
      exact this
    · rw [if_neg c2] at hw3
      rw [if_neg (fun h => c2 (i2.1 h)), if_neg n1, if_pos rfl, show f145 s2 15 23 5 19 0 0 = some (nI (w_t_cd [15, 23, 5, 19])) from rfl, w_k_bs]
      have f1 : ∀ (b : Nat) (v : Int32) (t : g_S), (18 ≤ b ∧ b ≤ 25) → b ≠ 18 → (g_w t 199 b v) 199 18 = t 199 18 := fun b v t _ hb => by rw [w_k_wq (by omega)]
      by_cases c3 : w_t_isw T n p [15, 23, 5, 19] = true
      · -- owes
        have w_e3 : w_t_wof T n p 3 = 2 := by rw [hw3, if_pos c3]
        obtain ⟨t, b1, b2, b3⟩ := w_w_147 H2 q2 (hkd _ (by decide) c3)
        obtain ⟨⟨v, u⟩, d1, d2, d3, d4⟩ := w_w_E (Nat.zero_le 6) _ t b2
        have h0u : w_w_4 s u := w_w_4t h2 (w_w_4t (w_w_a4 b3) d3)
        unfold w_t_says
        rw [if_pos (i3.2 c3), b1, w_k_bs, d1, w_k_bd, w_e3, if_neg (show ¬ (2 : Int32) = -1 by decide), if_pos (show (2 : Int32) = 2 from rfl)]
        have fin : ∀ R : w_t_R, (match R with
            | .inl e => w_w_X 0 T n e u
            | .inr (q, xs) => w_w_U T n 0 q u ∧ w_t_nx T n p ≤ q ∧ w_w_pu (t 207) 3 xs v) → w_OK (if p1 = 0 then some u else g_let (g_w u 199 23 1) fun s10 => g_let (g_w s10 199 19 v) fun s11 => some s11) (w_k_WC T n p s cs mix (match R with
            | .inl e => .inl e
            | .inr (q, xs) => .inr (q, (2, (kb, (0, xs)))))) := by
          intro R hR
          have key : ∃ u2, (if p1 = 0 then some u else g_let (g_w u 199 23 1) fun s10 => g_let (g_w s10 199 19 v) fun s11 => some s11) = some u2 ∧ w_w_f u u2 ∧ u2 199 18 = u 199 18 ∧ u2 199 20 = u 199 20 ∧ u2 199 21 = u 199 21 ∧ u2 199 22 = u 199 22 ∧ u2 199 24 = u 199 24 ∧ u2 199 25 = u 199 25 ∧ (p1 = 0 → u2 199 23 = u 199 23 ∧ u2 199 19 = u 199 19) ∧ (p1 ≠ 0 → u2 199 23 = 1 ∧ u2 199 19 = v) := by
            by_cases hz : p1 = 0
            · rw [if_pos hz]
              exact ⟨u, rfl, fun _ _ _ => rfl, rfl, rfl, rfl, rfl, rfl, rfl, fun _ => ⟨rfl, rfl⟩, fun g => absurd hz g⟩
            · rw [if_neg hz, w_k_let, w_k_let]
              exact ⟨_, rfl, fun x b hx => by rw [w_k_wq (by omega), w_k_wq (by omega)], rfl, rfl, rfl, rfl, rfl, rfl, fun g => absurd g hz, fun _ => ⟨rfl, rfl⟩⟩
          obtain ⟨u2, k1, k2, k3, k4, k5, k6, k7, k8, k9, k10⟩ := key
          refine ⟨u2, k1, w_w_5t (w_w_45 h0u) (w_w_f5 k2), by rw [k3, h0u 199 18 (by omega)], ?_⟩
          cases R with
          | inl e => exact w_w_Xf (w_x_mono hR) k2
          | inr qx =>
            obtain ⟨q, xs⟩ := qx
            obtain ⟨r1, r2, r3⟩ := hR
            refine ⟨w_w_Uf r1 k2, by omega, w_w_Gup (w_w_G4 h0u hG) (w_w_f5 k2) k4 ?_⟩
            intro ha
            have ha' := w_w_as4 (w_w_45 h0u) ha
            have w_e15 : u 199 15 = s 199 15 := h0u 199 15 (by omega)
            have h1 := h1 ha'
            have hwk : w_q_work (u 207) xs = v := by
              have e := r3 [] (by simp)
              rw [← w_w_207 d3] at e
              unfold w_q_work w_q_run; rw [e]; rfl
            unfold w_q_hold1
            rw [w_q_is_d, w_q_is_d, w_q_is_d, w_q_is_d, w_q_is_d, w_e15]
            generalize w_q_bit kb (s 199 15) = A at h1
            refine ⟨k5, k6, k7, k8, ?_, ?_⟩
            · intro hA
              have hA : A = true := by cases A; exact absurd hA (by decide); rfl
              have := k10 (by rw [h1, hA]; decide)
              exact ⟨this.1, by rw [this.2]; exact hwk.symm⟩
            · intro hA
              have hA : A = false := by cases A; rfl; exact absurd hA (by decide)
              exact k9 (by rw [h1, hA]; decide)
        have := fin (w_t_E T n (w_t_nx T n p) 0) d4
        exact this
      · rw [if_neg c3] at hw3
        rw [if_neg (fun h => c3 (i3.1 h)), show f145 s2 12 5 20 19 0 0 = some (nI (w_t_cd [12, 5, 20, 19])) from rfl, w_k_bs]
        by_cases c4 : w_t_isw T n p [12, 5, 20, 19] = true
        · -- lets
          have w_e3 : w_t_wof T n p 3 = 3 := by rw [hw3, if_pos c4]
          obtain ⟨t, b1, b2, b3⟩ := w_w_147 H2 q2 (hkd _ (by decide) c4)
          obtain ⟨⟨v, u⟩, d1, d2, d3, d4⟩ := w_w_160 b2
          have h0u : w_w_4 s u := w_w_4t h2 (w_w_4t (w_w_a4 b3) d3)
          unfold w_t_says
          rw [if_pos (i4.2 c4), b1, w_k_bs, d1, w_k_bd, w_e3, if_neg (show ¬ (3 : Int32) = -1 by decide), if_neg (show ¬ (3 : Int32) = 2 by decide), if_pos (show (3 : Int32) = 3 from rfl)]
          have key : ∃ y, (if (u 199 24) = 0 then (if p1 = 0 then (f163_115 u p1) else (if v = 0 then (f163_115 u p1) else (f163_113 u p1))) else (f163_113 u p1)) = some (g_w u 199 24 y) ∧ y = (if u 199 24 = 0 then (if p1 = 0 then 0 else if v = 0 then 0 else 1) else 1) := by
            refine ⟨_, ?_, rfl⟩
            split
            · split
              · rfl
              · split <;> rfl
            · rfl
          obtain ⟨y, k1, k2⟩ := key
          have hf : w_w_f u (g_w u 199 24 y) := w_w_f1 (by omega)
          refine ⟨_, k1, w_w_5t (w_w_45 h0u) (w_w_f5 hf), by rw [w_k_wq (by omega), h0u 199 18 (by omega)], ?_⟩
          cases hl : w_t_list T n (w_t_term T n) (w_t_nx T n p) with
          | inl e => rw [hl] at d4; exact w_w_Xf (w_x_mono d4) hf
          | inr qx =>
            obtain ⟨q, th⟩ := qx
            rw [hl] at d4
            obtain ⟨r1, r2, r3⟩ := d4
            refine ⟨w_w_Uf r1 hf, by omega, w_w_Gup (w_w_G4 h0u hG) (w_w_f5 hf) (by rw [w_k_wq (by omega)]) ?_⟩
            intro ha
            have ha' := w_w_as4 (w_w_45 h0u) ha
            have w_e15 : u 199 15 = s 199 15 := h0u 199 15 (by omega)
            have e17 : u 199 17 = s 199 17 := h0u 199 17 (by omega)
            have e17t : t 199 17 = s 199 17 := (w_w_4t h2 (w_w_a4 b3)) 199 17 (by omega)
            have h1 := h1 ha'
            have h24 : u 199 24 = w_q_b (w_q_lets (cs, mix) (s 199 15) (s 199 17)) := by rw [h0u 199 24 (by omega)]; exact (hG ha').2.2.1
            have r3 : w_k_wi (t 199 17) 0 3 → v = w_q_b (w_q_bit th (t 199 17)) := r3
            rw [e17t] at r3
            have r3 := r3 ha'.2.2
            rw [h1, r3, h24] at k2
            unfold w_q_hold1
            rw [w_q_is_d, w_q_is_d, w_q_is_d, w_q_is_d, w_q_is_d, w_e15, e17, h24]
            dsimp only
            generalize w_q_bit kb (s 199 15) = A at k2 ⊢
            generalize w_q_bit th (s 199 17) = B at k2 ⊢
            generalize w_q_lets (cs, mix) (s 199 15) (s 199 17) = C at k2 ⊢
            subst k2
            rw [w_k_wv]
            cases A <;> cases B <;> cases C <;> refine ⟨?_, ?_, ?_, ?_, ?_, ?_⟩ <;> first | rfl | (intro h; exact absurd h (by decide)) | (intro _; exact ⟨rfl, rfl⟩)
        · rw [if_neg c4] at hw3
          rw [if_neg (fun h => c4 (i4.1 h)), show f145 s2 20 23 9 3 5 0 = some (nI (w_t_cd [20, 23, 9, 3, 5])) from rfl, w_k_bs]
          by_cases c5 : w_t_isw T n p [20, 23, 9, 3, 5] = true
          · -- twice
            have w_e3 : w_t_wof T n p 3 = 4 := by rw [hw3, if_pos c5]
            obtain ⟨u, b1, b2, b3⟩ := w_w_147 H2 q2 (hkd _ (by decide) c5)
            have h0u : w_w_4 s u := w_w_4t h2 (w_w_a4 b3)
            unfold w_t_says
            rw [if_pos (i5.2 c5), b1, w_k_bs, w_e3, if_neg (show ¬ (4 : Int32) = -1 by decide), if_neg (show ¬ (4 : Int32) = 2 by decide), if_neg (show ¬ (4 : Int32) = 3 by decide), if_pos (show (4 : Int32) = 4 from rfl)]
            have key : ∃ y, (if (u 199 25) = 0 then (if p1 = 0 then (f163_138 u p1 0) else (f163_135 u p1)) else (f163_135 u p1)) = some (g_w u 199 25 y) ∧ y = (if u 199 25 = 0 then (if p1 = 0 then 0 else 1) else 1) := by
              refine ⟨_, ?_, rfl⟩
              split
              · split <;> rfl
              · rfl
            obtain ⟨y, k1, k2⟩ := key
            have hf : w_w_f u (g_w u 199 25 y) := w_w_f1 (by omega)
            refine ⟨_, k1, w_w_5t (w_w_45 h0u) (w_w_f5 hf), by rw [w_k_wq (by omega), h0u 199 18 (by omega)], w_w_Uf b2 hf, by omega, w_w_Gup (w_w_G4 h0u hG) (w_w_f5 hf) (by rw [w_k_wq (by omega)]) ?_⟩
            intro ha
            have ha' := w_w_as4 (w_w_45 h0u) ha
            have w_e15 : u 199 15 = s 199 15 := h0u 199 15 (by omega)
            have h1 := h1 ha'
            have h24 : u 199 25 = w_q_b (w_q_twice (cs, mix) (s 199 15)) := by rw [h0u 199 25 (by omega)]; exact (hG ha').2.2.2.1
            rw [h1, h24] at k2
            unfold w_q_hold1
            rw [w_q_is_d, w_q_is_d, w_q_is_d, w_q_is_d, w_q_is_d, w_e15, h24]
            dsimp only
            generalize w_q_bit kb (s 199 15) = A at k2 ⊢
            generalize w_q_twice (cs, mix) (s 199 15) = C at k2 ⊢
            subst k2
            rw [w_k_wv]
            cases A <;> cases C <;> refine ⟨?_, ?_, ?_, ?_, ?_, ?_⟩ <;> first | rfl | (intro h; exact absurd h (by decide)) | (intro _; exact ⟨rfl, rfl⟩)
          · rw [if_neg c5] at hw3
            unfold w_t_says
            rw [if_neg (fun h => c5 (i5.1 h)), if_pos hw3]
            obtain ⟨u, b1, b2, b3, _⟩ := w_w_140 (f := 1) H2 (by decide) q2
            rw [b1, w_k_bs]
            have h0u : w_w_4 s u := w_w_4t h2 b3
            exact ⟨_, rfl, w_w_45 h0u, h0u 199 18 (by omega), w_x_mono b2⟩
end WS2
