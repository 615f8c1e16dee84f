/-! conditions -/
section WC
variable {T : Nat → Int32} {n d : Nat} {F : g_S → Option (Int32 × g_S)} {φ : Nat → Nat → w_t_R}
theorem w_x_mono {e : Int32 × Nat} {s : g_S} (H : w_w_X 0 T n e s) : w_w_X 1 T n e s := by
  obtain ⟨h1, h2, h3, h4, a, h5, h6⟩ := H
  exact ⟨h1, h2, h3, h4, a, h5, by omega⟩
theorem w_k_PBi {x : Int32} (h : w_k_PB x) : m_isb x = true := by rcases h with h | h <;> rw [h] <;> rfl
theorem w_q_bB (b : Bool) : w_k_PB (w_q_b b) := by cases b <;> first | exact Or.inl rfl | exact Or.inr rfl
theorem w_w_146 {s : g_S} {o p : Nat} {ws : List Nat} {p1 p2 p3 p4 p5 p6 : Int32} (H : w_w_U T n o p s) (hw : (∀ x ∈ ws, 1 ≤ x ∧ x ≤ 26) ∧ ws.length < 7 ∧ w_t_cd ws < 387420489) (hc : ∀ u, f145 u p1 p2 p3 p4 p5 p6 = some (nI (w_t_cd ws))) : ∃ u, f146 s p1 p2 p3 p4 p5 p6 = some (w_q_b (w_t_isw T n p ws), u) ∧ w_w_U T n o p u ∧ u 199 4 = nI p ∧ w_w_a s u := by
  have hp := w_w_Up H
  obtain ⟨a, h1, h2, h3⟩ := H.2.2.2
  obtain ⟨u, q1, q2, q3⟩ := w_e146 H.1 h2 h1 h3 hw hc
  exact ⟨u, q1, w_w_Ua H q3 q2 hp.1 hp.2, q2, q3⟩
theorem w_x_155_3 (d : Nat) (e : Int32 × Nat) (s : g_S) (x : Int32) (hx : w_k_PB x) (H : w_w_X d T n e s) : w_OK (f155_3L F s x) fun w => w_k_PB w.1 ∧ w_w_4 s w.2 ∧ w_w_X d T n e w.2 := by
  rw [f155_3L_eq]; unfold f155_3
  rw [if_neg (by rw [H.2.2.1]; exact H.2.1), if_pos (w_k_PBi hx)]
  exact ⟨_, rfl, hx, w_w_4r, H⟩
theorem w_w_both {m m' o : Nat} (hm : m' + 1 ≤ m) (hF : w_k_WS 1 w_k_PB T n m o F φ) : w_k_WS 1 w_k_PB T n m' o (f155 F) (w_t_both T n φ) := by
  refine w_w_bin (L := f155_3L F) hm hF w_K_id w_sg_A w_x_155_3 (fun p s x hx H _ h => ?_) (fun p s x c hx H _ h => ?_)
  · have hp := w_w_Up H
    have h7 : ¬ w_t_wof T n p 7 = 0 := fun g => by unfold w_t_sA at h; rw [if_pos g] at h; cases h
    have hf := Bool.eq_false_iff.2 fun g => h7 ((w_t_wof1 (k := 7) hp.1 H.1.2.1 (by decide) rfl).1.2 g)
    obtain ⟨u, r1, r2, r3, r4⟩ := w_w_146 (ws := [1, 14, 4]) (p1 := 1) (p2 := 14) (p3 := 4) (p4 := 0) (p5 := 0) (p6 := 0) H (by decide) (fun _ => rfl)
    rw [f155_3L_eq]; unfold f155_3
    rw [if_pos H.2.1, r1, w_k_bd, hf, if_pos (show w_q_b false = 0 from rfl), if_pos (w_k_PBi hx)]
    exact ⟨u, rfl, r2, w_w_a4 r4⟩
  · have hp := w_w_Up H
    unfold w_t_sA at h
    split at h
    · rename_i h7
      cases h
      have hf := (w_t_wof1 (k := 7) hp.1 H.1.2.1 (by decide) rfl).1.1 h7
      obtain ⟨u, r1, r2, r3, r4⟩ := w_w_146 (ws := [1, 14, 4]) (p1 := 1) (p2 := 14) (p3 := 4) (p4 := 0) (p5 := 0) (p6 := 0) H (by decide) (fun _ => rfl)
      obtain ⟨t, q1, q2, q3⟩ := w_w_147 r2 r3 (w_t_wof_w (k := 7) (by rw [h7]; decide)).1
      refine ⟨t, fun v s8 => if x = 0 then f155_3L F s8 0 else if v = 0 then f155_3L F s8 0 else f155_3L F s8 1, q2, w_w_4t (w_w_a4 r4) (w_w_a4 q3), ?_, fun v s4 hv => ?_⟩
      · rw [f155_3L_eq]; unfold f155_3
        rw [if_pos H.2.1, r1, w_k_bd, hf, if_neg (show ¬ w_q_b true = 0 by decide), q1, w_k_bs]
        cases F t with
        | none => rfl
        | some w =>
          obtain ⟨v, s4⟩ := w
          rw [w_k_bd, w_k_bd]
          split
          · rfl
          · split <;> rfl
      · rcases hx with e | e <;> rcases hv with g | g <;> rw [e, g]
        · exact ⟨Or.inl rfl, rfl⟩
        · exact ⟨Or.inl rfl, rfl⟩
        · exact ⟨Or.inl rfl, rfl⟩
        · exact ⟨Or.inr rfl, rfl⟩
    · cases h
theorem w_x_both (hF : w_k_WX w_k_PB T n F) : w_k_WX w_k_PB T n (f155 F) := w_x_bin (L := f155_3L F) hF w_K_id w_x_155_3
theorem w_x_156_3 (d : Nat) (e : Int32 × Nat) (s : g_S) (x : Int32) (hx : w_k_PB x) (H : w_w_X d T n e s) : w_OK (f156_3L F s x) fun w => w_k_PB w.1 ∧ w_w_4 s w.2 ∧ w_w_X d T n e w.2 := by
  rw [f156_3L_eq]; unfold f156_3
  rw [if_neg (by rw [H.2.2.1]; exact H.2.1), if_pos (w_k_PBi hx)]
  exact ⟨_, rfl, hx, w_w_4r, H⟩
theorem w_w_eith {m m' o : Nat} (hm : m' + 2 ≤ m) (hF : w_k_WS 1 w_k_PB T n m o F φ) : w_k_WS 1 w_k_PB T n m' o (f156 F) (w_t_eith T n φ) := by
  refine w_w_bin (L := f156_3L F) (Nat.le_refl (m' + 1)) (w_w_both hm hF) w_K_id w_sg_O w_x_156_3 (fun p s x hx H _ h => ?_) (fun p s x c hx H _ h => ?_)
  · have hp := w_w_Up H
    have h7 : ¬ w_t_wof T n p 6 = 0 := fun g => by unfold w_t_sO at h; rw [if_pos g] at h; cases h
    have hf := Bool.eq_false_iff.2 fun g => h7 ((w_t_wof1 (k := 6) hp.1 H.1.2.1 (by decide) rfl).1.2 g)
    obtain ⟨u, r1, r2, r3, r4⟩ := w_w_146 (ws := [15, 18]) (p1 := 15) (p2 := 18) (p3 := 0) (p4 := 0) (p5 := 0) (p6 := 0) H (by decide) (fun _ => rfl)
    rw [f156_3L_eq]; unfold f156_3
    rw [if_pos H.2.1, r1, w_k_bd, hf, if_pos (show w_q_b false = 0 from rfl), if_pos (w_k_PBi hx)]
    exact ⟨u, rfl, r2, w_w_a4 r4⟩
  · have hp := w_w_Up H
    unfold w_t_sO at h
    split at h
    · rename_i h7
      cases h
      have hf := (w_t_wof1 (k := 6) hp.1 H.1.2.1 (by decide) rfl).1.1 h7
      obtain ⟨u, r1, r2, r3, r4⟩ := w_w_146 (ws := [15, 18]) (p1 := 15) (p2 := 18) (p3 := 0) (p4 := 0) (p5 := 0) (p6 := 0) H (by decide) (fun _ => rfl)
      obtain ⟨t, q1, q2, q3⟩ := w_w_147 r2 r3 (w_t_wof_w (k := 6) (by rw [h7]; decide)).1
      refine ⟨t, fun v s8 => if x = 0 then (if v = 0 then f156_3L F s8 0 else f156_3L F s8 1) else f156_3L F s8 1, q2, w_w_4t (w_w_a4 r4) (w_w_a4 q3), ?_, fun v s4 hv => ?_⟩
      · rw [f156_3L_eq]; unfold f156_3
        rw [if_pos H.2.1, r1, w_k_bd, hf, if_neg (show ¬ w_q_b true = 0 by decide), q1, w_k_bs]
        cases f155 F t with
        | none => rfl
        | some w =>
          obtain ⟨v, s4⟩ := w
          rw [w_k_bd, w_k_bd]
          split
          · split <;> rfl
          · rfl
      · rcases hx with e | e <;> rcases hv with g | g <;> rw [e, g]
        · exact ⟨Or.inl rfl, rfl⟩
        · exact ⟨Or.inr rfl, rfl⟩
        · exact ⟨Or.inr rfl, rfl⟩
        · exact ⟨Or.inr rfl, rfl⟩
    · cases h
theorem w_x_eith (hF : w_k_WX w_k_PB T n F) : w_k_WX w_k_PB T n (f156 F) := w_x_bin (L := f156_3L F) (w_x_both hF) w_K_id w_x_156_3
theorem w_w_cmp_j {c : Int32} (h : c = 60 ∨ c = 62 ∨ c = 61) (x v : Int32) : w_w_cmp x v c = w_q_join c x v := by
  rcases h with h | h | h <;> rw [h] <;> rfl
theorem w_x_79 {s : g_S} {e : Int32 × Nat} {x1 x2 : Int32} (H : w_w_X 0 T n e s) : w_OK (f154_79 F s x1 x2) fun w => w_k_PB w.1 ∧ w_w_4 s w.2 ∧ w_w_X 1 T n e w.2 := by
  obtain ⟨a, h1, h2⟩ := H.2.2.2.2
  obtain ⟨g1, g2⟩ := w_x_p (c := 0) (k := 1) (w_x_mono H) ⟨a, h1, by omega⟩
  obtain ⟨⟨v, s4⟩, w1, w2, w3, w4⟩ := w_x_E 1 e _ g1
  rw [w_f79_eq, show f153c (g_w s 199 4 (s 199 4 + 1)) = some (v, s4) from w1, w_k_bd]
  exact ⟨_, rfl, w_w_cmpB _ _ _, w_w_4t g2 w3, w4⟩
theorem w_w_comp {s0 s : g_S} {o p p0 : Nat} (ho : o ≤ 6) (H : w_w_U T n o p s) (h0 : w_w_4 s0 s) (hp0 : p0 ≤ p) :
    w_OK (g_bd (f153c s) fun v7 s8 => (f139 s8).bind fun s10 => (f138 s10 (s10 199 4)).bind fun v11 => if v11 = 60 then (f154_79 F s10 v7 v11) else (if v11 = 62 then (f154_79 F s10 v7 v11) else (if v11 = 61 then (f154_79 F s10 v7 v11) else ((f140 s10 1 (s10 199 4)).bind fun s16 => f154_79 F s16 v7 v11)))) (w_k_WR 1 w_k_PB T n (2 + 3 * o) o p0 s0 (w_t_comp T n p o)) := by
  obtain ⟨⟨v, s4⟩, w1, w2, w3, w4⟩ := w_w_E ho p s H
  unfold w_t_comp
  rw [w1, w_k_bd]
  cases hφ : w_t_E T n p o with
  | inl e =>
    rw [hφ] at w4
    obtain ⟨u, r1, r2, r3⟩ := w_x_139 w4
    obtain ⟨a, _, _, h3⟩ := w_x_138 r2
    rw [r1, w_k_bs, h3, w_k_bs]
    have key : w_OK (f154_79 F u v (w_t_B T n a)) (w_k_WR 1 w_k_PB T n (2 + 3 * o) o p0 s0 (.inl e)) := by
      obtain ⟨w, z1, z2, z3, z4⟩ := w_x_79 (F := F) (x1 := v) (x2 := w_t_B T n a) r2
      exact ⟨w, z1, z2, w_w_4t h0 (w_w_4t w3 (w_w_4t r3 z3)), z4⟩
    split
    · exact key
    · split
      · exact key
      · split
        · exact key
        · rw [w_x_140 r2]; exact key
  | inr qy =>
    obtain ⟨q, xs⟩ := qy
    rw [hφ] at w4
    obtain ⟨w5, hpq, w6⟩ := w4
    obtain ⟨u, r1, r2, r3, r4⟩ := w_w_139 w5
    have hq := w_w_Up r2
    rw [r1, w_k_bs, w_w_138 r2 r3, w_k_bs]
    dsimp only
    by_cases hc : w_t_kd T n q = 60 ∨ w_t_kd T n q = 62 ∨ w_t_kd T n q = 61
    · have hsg : w_w_sg (w_t_kd T n q) := by rcases hc with h | h | h <;> rw [h] <;> first | exact w_sg60 | exact w_sg62 | exact w_sg61
      have hB : w_t_B T n q = w_t_kd T n q := (w_w_B hsg).2 rfl
      rw [if_pos hc, hB]
      have e : (if w_t_kd T n q = 60 then f154_79 F u v (w_t_kd T n q) else if w_t_kd T n q = 62 then f154_79 F u v (w_t_kd T n q) else if w_t_kd T n q = 61 then f154_79 F u v (w_t_kd T n q) else (f140 u 1 (u 199 4)).bind fun s16 => f154_79 F s16 v (w_t_kd T n q)) = f154_79 F u v (w_t_kd T n q) := by
        split
        · rfl
        · split
          · rfl
          · split
            · rfl
            · rename_i a1 a2 a3; rcases hc with h | h | h <;> contradiction
      rw [e, w_f79_eq]
      obtain ⟨g1, g2⟩ := w_w_p1 r2 r3 hsg rfl
      have hnx := w_t_nx_le (T := T) hq.1
      obtain ⟨⟨v', s5⟩, y1, y2, y3, y4⟩ := w_w_E ho _ _ g1
      have h4 : w_w_4 s0 s5 := w_w_4t h0 (w_w_4t w3 (w_w_4t (w_w_a4 r4) (w_w_4t (w_w_a4 g2) y3)))
      rw [y1, w_k_bd]
      cases hφ2 : w_t_E T n (w_t_nx T n q) o with
      | inl e =>
        rw [hφ2] at y4
        exact ⟨_, rfl, w_w_cmpB _ _ _, h4, w_x_mono y4⟩
      | inr ry =>
        obtain ⟨r, ys⟩ := ry
        rw [hφ2] at y4
        obtain ⟨y5, hqr, y6⟩ := y4
        refine ⟨_, rfl, w_w_cmpB _ _ _, h4, y5, by omega, ?_⟩
        intro st hst
        have w_e1 : s 207 = s0 207 := w_w_207 h0
        have w_e2 : (g_w u 199 4 (u 199 4 + 1)) 207 = s0 207 := w_w_207 (w_w_4t h0 (w_w_4t w3 (w_w_4t (w_w_a4 r4) (w_w_a4 g2))))
        rw [List.foldl_append, List.foldl_append, ← w_e1, w6 st (by omega), w_e1, ← w_e2, y6 (v :: st) (by simp only [List.length_cons]; omega), w_w_cmp_j hc]
        show w_q_step _ (v' :: v :: st) _ = _
        rcases hc with h | h | h <;> rw [h] <;> exact w_q_op _ _ _ _ (by decide) (by decide) (by decide)
    · rw [if_neg hc, if_neg (fun g => hc (Or.inl ((w_w_B w_sg60).1 g))), if_neg (fun g => hc (Or.inr (Or.inl ((w_w_B w_sg62).1 g)))), if_neg (fun g => hc (Or.inr (Or.inr ((w_w_B w_sg61).1 g))))]
      obtain ⟨u', b1, b2, b3, _⟩ := w_w_140 (f := 1) r2 (by decide) r3
      rw [b1, w_k_bs]
      obtain ⟨w, z1, z2, z3, z4⟩ := w_x_79 (F := F) (x1 := v) (x2 := w_t_B T n q) b2
      exact ⟨w, z1, z2, w_w_4t h0 (w_w_4t w3 (w_w_4t (w_w_a4 r4) (w_w_4t b3 z3))), z4⟩
end WC
section WK
variable {T : Nat → Int32} {n d : Nat} {F : g_S → Option (Int32 × g_S)} {φ : Nat → Nat → w_t_R}
theorem w_t_te_isw {p : Nat} (hp : p ≤ n) (hB : ∀ j, j < n → w_k_wi (T j) 0 255) {ws : List Nat} (h : w_t_isw T n p ws = true) (h0 : ws.length ≠ 0) : w_t_te T n p = p + ws.length ∧ w_t_kd T n p = 256 := by
  have h1 := (w_t_isw_iff.1 h).1
  have hk : w_t_kd T n p = 256 := Classical.byContradiction fun g => by rw [w_t_r0 hp g] at h1; exact h0 h1.symm
  have h2 := (w_t_run_le (T := T) (n := n) (f := w_t_let) n p hp).1
  refine ⟨?_, hk⟩
  rw [(w_t_r_te hk hB).1]
  unfold w_t_r at h1
  omega
theorem w_x_cond : w_k_WX w_k_PB T n (f154 F) := by
  intro d e s H
  unfold f154
  rw [if_neg (by rw [H.2.2.1]; exact H.2.1)]
  exact ⟨_, rfl, Or.inl rfl, w_w_4r, H⟩
theorem w_w_23 {s : g_S} {v : Int32} (hv : w_k_PB v) : (if v = 0 then f154_23 F s 1 else f154_23 F s 0) = some (1 - v, g_w s 199 5 (s 199 5 - 1)) := by
  unfold f154_23
  rcases hv with e | e <;> rw [e] <;> rfl
theorem w_w_cond {o : Nat} (ho : o ≤ 6) (hF : o < 6 → w_k_WS 1 w_k_PB T n (5 + 3 * o) (o + 1) F φ) (hX : w_k_WX w_k_PB T n F) : w_k_WS 1 w_k_PB T n (2 + 3 * o) o (f154 F) (w_t_cond T n φ) := by
  intro p s H
  have hp := w_w_Up H
  have hB := H.1.2.1
  have hxp := w_t_nx_le (T := T) hp.1
  obtain ⟨u, r1, r2, r3, r4⟩ := w_w_146 (ws := [14, 15, 20]) (p1 := 14) (p2 := 15) (p3 := 20) (p4 := 0) (p5 := 0) (p6 := 0) H (by decide) (fun _ => rfl)
  unfold f154 w_t_cond
  rw [if_pos H.2.1, r1, w_k_bd]
  cases hf : w_t_isw T n p [14, 15, 20] with
  | true =>
    have h8 := (w_t_wof1 (k := 8) hp.1 hB (by decide) rfl).1.2 hf
    have hte := w_t_te_isw hp.1 hB hf (by decide)
    rw [if_neg (show ¬ w_q_b true = 0 by decide), if_pos h8]
    obtain ⟨t, q1, q2, q3⟩ := w_w_149 (k := 3) r2 r3 hte.1 ho
    have h4 : w_w_4 s t := w_w_4t (w_w_a4 r4) q2
    rw [show f149 u 3 = some t from q1, w_k_bs]
    rcases q3 with ⟨ho6, q3⟩ | ⟨ho6, q3⟩
    · obtain ⟨⟨v, s4⟩, w1, w2, w3, w4⟩ := hF ho6 _ t q3
      rw [w1, w_k_bd, if_pos ho6, w_w_23 w2]
      have hB1 : w_k_PB (1 - v) := by rcases w2 with e | e <;> simp only at e <;> rw [e] <;> first | exact Or.inl rfl | exact Or.inr rfl
      cases hφ : φ (w_t_nx T n p) (o + 1) with
      | inl e =>
        rw [hφ] at w4
        obtain ⟨g1, g2⟩ := w_x_n5 (v := s4 199 5 - 1) w4
        exact ⟨_, rfl, hB1, w_w_4t h4 (w_w_4t w3 g2), g1⟩
      | inr qy =>
        obtain ⟨q, xs⟩ := qy
        rw [hφ] at w4
        obtain ⟨w5, hpq, w6⟩ := w4
        obtain ⟨g1, g2⟩ := w_w_n5 (o' := o) (v := s4 199 5 - 1) w5 (by rw [show s4 199 5 = nI (o + 1) from w5.2.2.1.1, w_k_m1])
        refine ⟨_, rfl, hB1, w_w_4t h4 (w_w_4t w3 g2), g1, by omega, ?_⟩
        intro st hst
        rw [List.foldl_append, ← w_w_207 h4, w6 st (by omega)]
        rfl
    · obtain ⟨⟨v, s4⟩, w1, w2, w3, w4⟩ := hX _ _ t q3
      rw [w1, w_k_bd, if_neg ho6, w_w_23 w2]
      have hB1 : w_k_PB (1 - v) := by rcases w2 with e | e <;> simp only at e <;> rw [e] <;> first | exact Or.inl rfl | exact Or.inr rfl
      obtain ⟨g1, g2⟩ := w_x_n5 (v := s4 199 5 - 1) w4
      exact ⟨_, rfl, hB1, w_w_4t h4 (w_w_4t w3 g2), w_x_mono g1⟩
  | false =>
    have h8 : ¬ w_t_wof T n p 8 = 0 := fun g => by rw [(w_t_wof1 (k := 8) hp.1 hB (by decide) rfl).1.1 g] at hf; cases hf
    rw [if_pos (show w_q_b false = 0 from rfl), if_neg h8, w_w_138 r2 r3, w_k_bs]
    by_cases h91 : w_t_kd T n p = 91
    · rw [if_pos ((w_w_B w_sg91).2 h91), if_pos h91]
      obtain ⟨t, q1, q2, q3⟩ := w_w_149 (k := 1) r2 r3 (w_t_te_B w_sg91.1 w_sg91.2.1 w_sg91.2.2.2.2.1 w_sg91.2.2.1 w_sg91.2.2.2.1 h91).1 ho
      have h4 : w_w_4 s t := w_w_4t (w_w_a4 r4) q2
      rw [show f149 u 1 = some t from q1, w_k_bs]
      rcases q3 with ⟨ho6, q3⟩ | ⟨ho6, q3⟩
      · obtain ⟨⟨v, s4⟩, w1, w2, w3, w4⟩ := w_w_eith (m' := 3 + 3 * o) (by omega) (hF ho6) _ t q3
        rw [w1, w_k_bd, if_pos ho6]
        cases hφ : w_t_eith T n φ (w_t_nx T n p) (o + 1) with
        | inl e =>
          rw [hφ] at w4
          obtain ⟨t2, y1, y2, y3⟩ := w_x_148 (c := 93) w4 (by decide)
          obtain ⟨g1, g2⟩ := w_x_n5 (v := t2 199 5 - 1) y3
          rw [y1, w_k_bs, w_k_let, if_pos (w_k_PBi w2)]
          exact ⟨_, rfl, w2, w_w_4t h4 (w_w_4t w3 (w_w_4t y2 g2)), g1⟩
        | inr qy =>
          obtain ⟨q, xs⟩ := qy
          rw [hφ] at w4
          obtain ⟨w5, hpq, w6⟩ := w4
          obtain ⟨t2, y1, y2, y3⟩ := w_w_148 w5 w_sg93
          rw [y1, w_k_bs, w_k_let, if_pos (w_k_PBi w2)]
          unfold w_t_sign
          dsimp only
          rcases y3 with ⟨h, y3⟩ | ⟨h, y3⟩
          · rw [if_pos h]
            have := w_t_nx_le (T := T) (w_w_Up w5).1
            obtain ⟨g1, g2⟩ := w_w_n5 (o' := o) (v := t2 199 5 - 1) y3 (by rw [y3.2.2.1.1, w_k_m1])
            exact ⟨_, rfl, w2, w_w_4t h4 (w_w_4t w3 (w_w_4t y2 g2)), g1, by omega, fun st hst => by rw [← w_w_207 h4]; exact w6 st (by omega)⟩
          · rw [if_neg h]
            obtain ⟨g1, g2⟩ := w_x_n5 (v := t2 199 5 - 1) y3
            exact ⟨_, rfl, w2, w_w_4t h4 (w_w_4t w3 (w_w_4t y2 g2)), w_x_mono g1⟩
      · obtain ⟨⟨v, s4⟩, w1, w2, w3, w4⟩ := w_x_eith hX _ _ t q3
        obtain ⟨t2, y1, y2, y3⟩ := w_x_148 (c := 93) w4 (by decide)
        obtain ⟨g1, g2⟩ := w_x_n5 (v := t2 199 5 - 1) y3
        rw [w1, w_k_bd, if_neg ho6, y1, w_k_bs, w_k_let, if_pos (w_k_PBi w2)]
        exact ⟨_, rfl, w2, w_w_4t h4 (w_w_4t w3 (w_w_4t y2 g2)), w_x_mono g1⟩
    · rw [if_neg (fun g => h91 ((w_w_B w_sg91).1 g)), if_neg h91]
      exact w_w_comp ho r2 (w_w_a4 r4) (Nat.le_refl p)
theorem w_w_C154 : ∀ m o, o ≤ 6 → 8 ≤ m + o → w_k_WS 1 w_k_PB T n (2 + 3 * o) o (g154 m) (w_t_C T n m)
  | 0, o, h1, h2 => by omega
  | m + 1, o, h1, h2 => by
    have hx : w_k_WX w_k_PB T n (g154 m) := by
      obtain ⟨k, rfl⟩ : ∃ k, m = k + 1 := ⟨m - 1, by omega⟩
      exact w_x_cond
    exact w_w_cond h1 (fun ho => by have := w_w_C154 m (o + 1) (by omega) (by omega); rw [show 2 + 3 * (o + 1) = 5 + 3 * o by omega] at this; exact this) hx
theorem w_w_Xc : w_k_WS 1 w_k_PB T n 0 0 f156c (w_t_X T n) := w_w_eith (m := 2) (by omega) (w_w_C154 9 0 (by omega) (by omega))
end WK
