/-! a clause, the walk -/
section WT
variable {T : Nat → Int32} {n : Nat}
def w_w_H (L : w_q_L) (s : g_S) : Prop := s 199 18 = nI L.1.length ∧ L.1.length ≤ 24 ∧ w_w_G L s
theorem w_w_Gcg {s u : g_S} {L : w_q_L} (H : w_w_G L s) (h : ∀ x b, ¬ (x = 199 ∧ ((4 ≤ b ∧ b ≤ 7) ∨ b = 18)) → u x b = s x b) : w_w_G L u := by
  intro ha
  have h5 : w_w_5 s u := fun x b hx => h x b (by omega)
  have H := H (w_w_as4 h5 ha)
  rw [h 199 21 (by omega), h 199 22 (by omega), h 199 24 (by omega), h 199 25 (by omega), h 199 20 (by omega), h 199 23 (by omega), h 199 19 (by omega), h 199 15 (by omega), h 199 16 (by omega), h 199 17 (by omega), w_w_5_207 h5]
  exact H
theorem w_w_Gmix {s u : g_S} {cs : List w_q_C} {m m' : Int32} (H : w_w_G (cs, m) s) (h : ∀ x b, ¬ (x = 199 ∧ ((4 ≤ b ∧ b ≤ 7) ∨ b = 20)) → u x b = s x b) (h20 : u 199 20 = m' + 1) : w_w_G (cs, m') u := by
  intro ha
  have h5 : w_w_5 s u := fun x b hx => h x b (by omega)
  have H := H (w_w_as4 h5 ha)
  rw [h 199 21 (by omega), h 199 22 (by omega), h 199 24 (by omega), h 199 25 (by omega), h20, h 199 23 (by omega), h 199 19 (by omega), h 199 15 (by omega), h 199 16 (by omega), h 199 17 (by omega), w_w_5_207 h5]
  exact ⟨H.1, H.2.1, H.2.2.1, H.2.2.2.1, rfl, H.2.2.2.2.2⟩
theorem w_w_G5 {s : g_S} {cs : List w_q_C} {m : Int32} (H : w_w_G (cs, m) s) : w_w_G (cs ++ [(5, (0, (0, [])))], m) s :=
  w_w_Gup H w_w_5r rfl (fun _ => by
    unfold w_q_hold1
    rw [w_q_is_d, w_q_is_d, w_q_is_d, w_q_is_d, w_q_is_d]
    generalize w_q_bit 0 (s 199 15) = A
    refine ⟨rfl, rfl, rfl, rfl, ?_, ?_⟩
    · intro h; cases A <;> exact absurd h (by decide)
    · intro _; exact ⟨rfl, rfl⟩)
def w_k_WM (T : Nat → Int32) (n p0 : Nat) (s : g_S) (R : w_t_RL) (u : g_S) : Prop := w_w_5 s u ∧ match R with
  | .inl e => w_w_X 1 T n e u
  | .inr (q, M) => w_w_U T n 0 q u ∧ p0 < q ∧ w_w_H M u
theorem w_x_62 {s0 s : g_S} {e : Int32 × Nat} {p0 : Nat} (H : w_w_X 1 T n e s) (h0 : w_w_5 s0 s) : w_OK (f161_62 s) (w_k_WM T n p0 s0 (.inl e)) := by
  unfold f161_62 f161_68
  rw [if_neg (show ¬ s 199 6 = 0 by rw [H.2.2.1]; exact H.2.1), w_k_let]
  have hf : w_w_f s (g_w s 199 18 (s 199 18 + 1)) := w_w_f1 (by omega)
  exact ⟨_, rfl, w_w_5t h0 (w_w_f5 hf), w_w_Xf H hf⟩
theorem w_w_62 {s0 s : g_S} {q p0 : Nat} {M : w_q_L} {m : Nat} (H : w_w_U T n 0 q s) (h0 : w_w_5 s0 s) (hG : w_w_G M s) (h18 : s 199 18 = nI m) (hm : M.1.length = m + 1) (hm2 : m < 24) (hp : p0 ≤ q) : w_OK (f161_62 s) (w_k_WM T n p0 s0 (w_t_end T n q M)) := by
  obtain ⟨u, r1, r2, r3⟩ := w_w_148 H w_sg59
  unfold f161_62 f161_68 w_t_end
  rw [if_pos H.2.1, r1, w_k_bs, w_k_let]
  have hf : w_w_f u (g_w u 199 18 (u 199 18 + 1)) := w_w_f1 (by omega)
  have h5 := w_w_5t h0 (w_w_5t (w_w_45 r2) (w_w_f5 hf))
  rcases r3 with ⟨h, r3⟩ | ⟨h, r3⟩
  · rw [if_pos h]
    have hlt := w_t_nx_lt (T := T) (w_t_kdn (T := T) (n := n) (p := q) (by rw [h]; decide))
    refine ⟨_, rfl, h5, w_w_Uf r3 hf, by omega, ?_, by omega, w_w_Gcg hG (fun x b hx => ?_)⟩
    · rw [w_k_wv, r2 199 18 (by omega), h18, w_k_s1, hm]
    · rw [w_k_wq (by omega), r2 x b (by omega)]
  · rw [if_neg h]
    exact ⟨_, rfl, h5, w_w_Xf (w_x_mono r3) hf⟩
theorem w_x_39 {s : g_S} {e : Int32 × Nat} {x1 x2 : Int32} {d : Nat} (H : w_w_X d T n e s) : f161_39 s x1 x2 = some s := by
  unfold f161_39; rw [if_neg (show ¬ s 199 6 = 0 by rw [H.2.2.1]; exact H.2.1)]
theorem w_t_mix01 : ∀ ws ∈ w_t_wds 0, ∀ vs ∈ w_t_wds 1, ws ≠ vs := by decide
theorem w_t_wof01 {p : Nat} (hp : p ≤ n) (hB : ∀ j, j < n → w_k_wi (T j) 0 255) (h1 : ¬ w_t_wof T n p 0 = -1) : ¬ w_t_wof T n p 1 = 0 := by
  intro h2
  have h2 : w_t_wof T n p 1 ≠ -1 := by rw [h2]; decide
  rw [w_t_wof_fi hp hB (by decide)] at h1 h2
  obtain ⟨ws, a1, a2⟩ := w_t_fi_ex _ _ h1
  obtain ⟨vs, b1, b2⟩ := w_t_fi_ex _ _ h2
  exact w_t_mix01 ws a1 vs b1 (w_t_isw_u (w_t_wds26 0 (by decide) ws a1) (w_t_wds26 1 (by decide) vs b1) a2 b2)
theorem w_w_162 {s0 s : g_S} {p p0 : Nat} {L : w_q_L} (H : w_w_U T n 0 p s) (h0 : w_w_5 s0 s) (hH : w_w_H L s) (hL : L.1.length < 24) (hp0 : p0 ≤ p) :
    w_OK ((f162 s).bind fun s6 => f161_62 s6) (w_k_WM T n p0 s0 (if w_t_wof T n p 2 = -1 then .inl (1, p) else w_t_end T n (w_t_nx T n p) (L.1 ++ [(5, (0, (0, [])))], w_t_wof T n p 2))) := by
  have hp := w_w_Up H
  have hB := H.1.2.1
  have hxp := w_t_nx_le (T := T) hp.1
  obtain ⟨u1, a1, a2, a3, a4⟩ := w_w_146 (ws := [16, 1, 18, 20, 19]) (p1 := 16) (p2 := 1) (p3 := 18) (p4 := 20) (p5 := 19) (p6 := 0) H (by decide) (fun _ => rfl)
  obtain ⟨u2, b1, b2, b3, b4⟩ := w_w_146 (ws := [12, 1, 19, 20]) (p1 := 12) (p2 := 1) (p3 := 19) (p4 := 20) (p5 := 0) (p6 := 0) a2 (by decide) (fun _ => rfl)
  have h4 : w_w_4 s u2 := w_w_4t (w_w_a4 a4) (w_w_a4 b4)
  unfold f162
  rw [a1, w_k_bd, b1, w_k_bd]
  have fin : ∀ v m', v = m' + 1 → w_t_wof T n p 2 = m' → w_t_wof T n p 2 ≠ -1 → w_OK (((f147 u2).bind fun s3 => f162_39 s3 v).bind fun s6 => f161_62 s6) (w_k_WM T n p0 s0 (w_t_end T n (w_t_nx T n p) (L.1 ++ [(5, (0, (0, [])))], w_t_wof T n p 2))) := by
    intro v m' hv hm hne
    obtain ⟨t, c1, c2, c3⟩ := w_w_147 b2 b3 (w_t_wof_w hne).1
    unfold f162_39
    rw [c1, w_k_bs, w_k_let, w_k_bs, hm]
    have hf : w_w_f t (g_w t 199 20 v) := w_w_f1 (by omega)
    have h4t : w_w_4 s t := w_w_4t h4 (w_w_a4 c3)
    refine w_w_62 (m := L.1.length) (w_w_Uf c2 hf) (w_w_5t h0 (w_w_5t (w_w_45 h4t) (w_w_f5 hf))) ?_ (by rw [w_k_wq (by omega), h4t 199 18 (by omega)]; exact hH.1) (by simp) hL (by omega)
    exact w_w_Gmix (w_w_G4 h4t (w_w_G5 hH.2.2)) (fun x b hx => by rw [w_k_wq (by omega)]) (by rw [w_k_wv, hv])
  unfold f162_27
  have h6 : u2 199 6 = 0 := b2.2.1
  rcases w_t_wof2 (p := p) (k := 2) hp.1 hB (by decide) rfl (by decide) (by decide) (by decide) with ⟨w_e1, w_e2, w_e3⟩ | ⟨w_e1, w_e2, w_e3⟩ | ⟨w_e1, w_e2, w_e3⟩
  · rw [w_e2, w_e3, if_neg (show ¬ w_q_b true = 0 by decide), if_pos h6, if_neg (show ¬ w_t_wof T n p 2 = -1 by rw [w_e1]; decide)]
    have := fin 1 0 rfl w_e1 (by rw [w_e1]; decide)
    exact this
  · rw [w_e2, w_e3, if_pos (show w_q_b false = 0 from rfl), if_neg (show ¬ w_q_b true = 0 by decide), if_pos h6, if_neg (show ¬ w_t_wof T n p 2 = -1 by rw [w_e1]; decide)]
    have := fin 2 1 rfl w_e1 (by rw [w_e1]; decide)
    exact this
  · rw [w_e2, w_e3, if_pos (show w_q_b false = 0 from rfl), if_pos (show w_q_b false = 0 from rfl), if_pos w_e1]
    obtain ⟨t, c1, c2, c3, _⟩ := w_w_140 (f := 1) b2 (by decide) b3
    rw [c1, w_k_bs, if_neg (show ¬ t 199 6 = 0 by rw [show t 199 6 = 1 from c2.2.2.1]; decide), w_k_bs]
    exact w_x_62 (w_x_mono c2) (w_w_5t h0 (w_w_45 (w_w_4t h4 c3)))
end WT
/-! the walk over a law -/
section WZ
variable {T : Nat → Int32} {n : Nat}
theorem w_w_61 {s0 s : g_S} {p p0 : Nat} {p1 kb : Int32} {L : w_q_L} (H : w_w_U T n 0 p s) (h0 : w_w_5 s0 s) (hH : w_w_H L s) (hL : L.1.length < 24) (hp0 : p0 ≤ p) (hP : w_k_PB p1) (h1 : w_w_as s → p1 = w_q_b (w_q_bit kb (s 199 15))) :
    w_OK (f161_61 s p1) (w_k_WM T n p0 s0 (match w_t_says T n kb p with
    | .inl e => .inl e
    | .inr (q, c) => w_t_end T n q (L.1 ++ [c], L.2))) := by
  obtain ⟨u, r1, r2, r3, r4⟩ := w_w_says (cs := L.1) (mix := L.2) H hH.2.2 hP h1
  unfold f161_61
  rw [r1, w_k_bs]
  cases hS : w_t_says T n kb p with
  | inl e =>
    rw [hS] at r4
    exact w_x_62 r4 (w_w_5t h0 r2)
  | inr qc =>
    obtain ⟨q, c⟩ := qc
    rw [hS] at r4
    obtain ⟨g1, g2, g3⟩ := r4
    exact w_w_62 (m := L.1.length) g1 (w_w_5t h0 r2) g3 (by rw [r3]; exact hH.1) (by simp) hL (by omega)
def w_w_kv (k x : Int32) : Int32 := if x = 6 then 1 else if x = k then 1 else 0
theorem w_w_161 {s : g_S} {p : Nat} {L : w_q_L} (H : w_w_U T n 0 p s) (hH : w_w_H L s) : w_OK (f161 s) (w_k_WM T n p s (w_t_cl T n p L)) := by
  have hp := w_w_Up H
  have hB := H.1.2.1
  have hxp := w_t_nx_le (T := T) hp.1
  obtain ⟨a, g1, g2, g3⟩ := H.2.2.2
  obtain ⟨u, r1, r2, r3⟩ := w_e157 H.1 g2 g1 g3
  have hu := w_w_Ua H r3 r2 hp.1 hp.2
  have h4 : w_w_4 s u := w_w_a4 r3
  have hf := w_t_wof_fi (T := T) (k := 0) hp.1 hB (by decide)
  have hm := (w_t_wof1 (k := 1) hp.1 hB (by decide) rfl).1
  unfold f161 f161_17
  rw [r1, w_k_bd, ← hf]
  unfold w_t_cl
  have h30 : ∀ (t : g_S) (x1 y0 : Int32), w_w_U T n 0 p t → t 199 4 = nI p → w_w_4 s t → ¬ L.1.length < 24 → w_OK (f161_30 t x1 y0) (w_k_WM T n p s (.inl (3, p))) := by
    intro t x1 y0 ht ht4 hst hl
    unfold f161_30
    have e18 : t 199 18 = 24 := by rw [hst 199 18 (by omega), hH.1, show L.1.length = 24 by have := hH.2.1; omega]; rfl
    obtain ⟨t2, b1, b2, b3, _⟩ := w_w_140 (f := 3) ht (by decide) ht4
    rw [if_pos e18, b1, w_k_bs, w_x_39 b2]
    exact ⟨_, rfl, w_w_45 (w_w_4t hst b3), w_x_mono b2⟩
  have h18n : ∀ t : g_S, w_w_4 s t → L.1.length < 24 → ¬ t 199 18 = 24 := by
    intro t hst hl e
    rw [hst 199 18 (by omega), hH.1] at e
    have := (w_k_eq (b := 24) (by omega) (by omega)).1 e
    omega
  have hH4 : ∀ t : g_S, w_w_4 s t → w_w_H L t := fun t hst => ⟨by rw [hst 199 18 (by omega)]; exact hH.1, hH.2.1, w_w_G4 hst hH.2.2⟩
  by_cases h0 : w_t_wof T n p 0 = -1
  · rw [if_pos h0]
    obtain ⟨u2, a1, a2, a3, a4⟩ := w_w_146 (ws := [13, 9, 24, 5, 4]) (p1 := 13) (p2 := 9) (p3 := 24) (p4 := 5) (p5 := 4) (p6 := 0) hu (by decide) (fun _ => rfl)
    have h42 : w_w_4 s u2 := w_w_4t h4 (w_w_a4 a4)
    rw [a1, w_k_bd]
    unfold f161_18
    cases hx : w_t_isw T n p [13, 9, 24, 5, 4] with
    | false =>
      have h1 : ¬ w_t_wof T n p 1 = 0 := fun g => by rw [hm.1 g] at hx; cases hx
      obtain ⟨t2, b1, b2, b3, _⟩ := w_w_140 (f := 1) a2 (by decide) a3
      rw [if_pos (show w_q_b false = 0 from rfl), if_pos h0, if_pos rfl, b1, w_k_bs, w_x_39 b2, if_pos ⟨h0, h1⟩]
      exact ⟨_, rfl, w_w_45 (w_w_4t h42 b3), w_x_mono b2⟩
    | true =>
      have h1 : w_t_wof T n p 1 = 0 := hm.2 hx
      rw [if_neg (show ¬ w_q_b true = 0 by decide), if_pos h0, if_neg (show ¬ (1 : Int32) = 0 by decide), if_neg (show ¬ (w_t_wof T n p 0 = -1 ∧ ¬ w_t_wof T n p 1 = 0) from fun g => g.2 h1)]
      by_cases hl : L.1.length < 24
      · rw [if_neg (fun g => g hl), if_pos h1]
        unfold f161_30 f161_39
        obtain ⟨t, c1, c2, c3⟩ := w_w_147 a2 a3 (w_t_wof_w (k := 1) (by rw [h1]; decide)).1
        have h4t : w_w_4 s t := w_w_4t h42 (w_w_a4 c3)
        rw [if_neg (h18n u2 h42 hl), if_pos a2.2.1, c1, w_k_bs, if_neg (show ¬ (1 : Int32) = 0 by decide)]
        exact w_w_162 c2 (w_w_45 h4t) (hH4 t h4t) hl hxp.1
      · rw [if_pos hl]
        exact h30 u2 _ _ a2 a3 h42 hl
  · rw [if_neg h0]
    have h1 : ¬ w_t_wof T n p 1 = 0 := w_t_wof01 hp.1 hB h0
    unfold f161_18
    rw [if_neg h0, if_neg (fun g => h0 g.1)]
    by_cases hl : L.1.length < 24
    · rw [if_neg (fun g => g hl), if_neg h1]
      unfold f161_30 f161_39
      obtain ⟨t, c1, c2, c3⟩ := w_w_147 hu r2 (w_t_wof_w h0).1
      have h4t : w_w_4 s t := w_w_4t h4 (w_w_a4 c3)
      rw [if_neg (h18n u h4 hl), if_pos hu.2.1, c1, w_k_bs, if_pos rfl]
      have e : (if w_t_wof T n p 0 = 6 then f161_58 t else if w_t_wof T n p 0 = t 199 15 then f161_58 t else f161_61 t 0) = f161_61 t (w_w_kv (t 199 15) (w_t_wof T n p 0)) := by
        unfold w_w_kv f161_58
        split
        · rfl
        · split <;> rfl
      rw [e]
      refine w_w_61 (kb := w_t_bits (w_t_wof T n p 0)) c2 (w_w_45 h4t) (hH4 t h4t) hl hxp.1 ?_ ?_
      · unfold w_w_kv w_k_PB
        split
        · exact Or.inr rfl
        · split
          · exact Or.inr rfl
          · exact Or.inl rfl
      · intro ha
        obtain ⟨k, _, k1, k2⟩ := w_k_iI (a := 0) (b := 5) (by omega) ha.1 (by omega)
        obtain ⟨w, w1, w2⟩ := w_t_fi_lt (T := T) (n := n) (p := p) (w_t_wds 0) 0 (by rw [← hf]; exact h0)
        have w1 : w < 7 := by have : 0 + (w_t_wds 0).length = 7 := rfl; omega
        rw [hf, w2, k2, w_q_bits w w1 k (by omega)]
        unfold w_w_kv
        by_cases a1 : nI w = 6
        · rw [if_pos a1, decide_eq_true (Or.inl a1)]; rfl
        · rw [if_neg a1]
          by_cases a2 : nI w = nI k
          · rw [if_pos a2, decide_eq_true (Or.inr a2)]; rfl
          · rw [if_neg a2, decide_eq_false (fun g => g.elim a1 a2)]; rfl
    · rw [if_pos hl]
      exact h30 u _ _ hu r2 h4 hl
end WZ
