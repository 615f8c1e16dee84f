/-! the walk over a law's text -/
section WY
variable {T : Nat → Int32} {n : Nat}
theorem w_t_kd258 {p : Nat} (hB : ∀ j, j < n → w_k_wi (T j) 0 255) : w_t_kd T n p = 258 ↔ ¬ p < n := by
  unfold w_t_kd
  constructor
  · intro h g
    rw [if_pos g] at h
    split at h
    · exact absurd h (by decide)
    · split at h
      · exact absurd h (by decide)
      · obtain ⟨k, _, h2, h3⟩ := w_k_iI (a := 0) (b := 255) (by omega) (hB p g) (by omega)
        rw [h3] at h
        have := (w_k_eq (a := k) (b := 258) (by omega) (by omega)).1 h
        omega
  · intro g; rw [if_neg g]
theorem w_t_end_len {q r : Nat} {L M : w_q_L} (h : w_t_end T n q L = .inr (r, M)) : M = L := by
  unfold w_t_end at h
  split at h
  · cases h; rfl
  · cases h
theorem w_t_cl_len {p q : Nat} {L M : w_q_L} (h : w_t_cl T n p L = .inr (q, M)) : M.1.length = L.1.length + 1 := by
  unfold w_t_cl at h
  split at h
  · cases h
  · split at h
    · cases h
    · split at h
      · split at h
        · cases h
        · rw [w_t_end_len h]; simp
      · split at h
        · cases h
        · rw [w_t_end_len h]; simp
def w_k_WW (T : Nat → Int32) (n : Nat) (s : g_S) (R : (Int32 × Nat) ⊕ w_q_L) (u : g_S) : Prop := w_w_5 s u ∧ match R with
  | .inl e => w_w_X 1 T n e u
  | .inr L => u 199 6 = 0 ∧ u 199 7 = -1 ∧ w_w_H L u
theorem w_w_138L : ∀ k p (s0 s : g_S) L, 25 ≤ k + L.1.length → w_w_U T n 0 p s → s 199 4 = nI p → w_w_H L s → w_w_5 s0 s → w_OK (f164_38L s) (w_k_WW T n s0 (w_t_ps T n k p L))
  | 0, p, s0, s, L, hk, H, h4, hH, h5 => by
    have := hH.2.1
    omega
  | k + 1, p, s0, s, L, hk, H, h4, hH, h5 => by
    have hp := w_w_Up H
    have hn := H.1.1
    have hB := H.1.2.1
    have w_e2 : s 199 2 = nI n := H.1.2.2.1
    rw [f164_38L_eq]; unfold f164_38 w_t_ps
    rw [if_pos H.2.1, h4, w_e2]
    by_cases h : p < n
    · rw [if_pos ((w_k_lt (by omega) (by omega)).2 h), if_neg (fun g => (w_t_kd258 hB).1 g h)]
      obtain ⟨u, r1, r2, r3⟩ := w_w_161 H hH
      rw [r1, w_k_bs]
      cases hR : w_t_cl T n p L with
      | inl e =>
        rw [hR] at r3
        obtain ⟨t, q1, q2, q3⟩ := w_x_139 r3
        rw [q1, w_k_bs]
        show w_OK (f164_38L t) _
        rw [f164_38L_eq]; unfold f164_38
        rw [if_neg (show ¬ t 199 6 = 0 by rw [q2.2.2.1]; exact q2.2.1)]
        exact ⟨t, rfl, w_w_5t h5 (w_w_5t r2 (w_w_45 q3)), q2⟩
      | inr qM =>
        obtain ⟨q, M⟩ := qM
        rw [hR] at r3
        obtain ⟨g1, g2, g3⟩ := r3
        obtain ⟨t, q1, q2, q3, q4⟩ := w_w_139 g1
        rw [q1, w_k_bs]
        show w_OK (f164_38L t) _
        have hlen := w_t_cl_len hR
        exact w_w_138L k q s0 t M (by omega) q2 q3 ⟨by rw [q4 199 18 (by omega)]; exact g3.1, g3.2.1, w_w_G4 (w_w_a4 q4) g3.2.2⟩ (w_w_5t h5 (w_w_5t r2 (w_w_45 (w_w_a4 q4))))
    · rw [if_neg (w_k_nlt (by omega) (by omega) h), if_pos ((w_t_kd258 hB).2 h)]
      exact ⟨s, rfl, h5, H.2.1, H.2.2.1.2, hH⟩
theorem w_w_164 {s : g_S} (H : w_w_W s T n) : w_OK (f164 s) (w_k_WW T n s (w_t_law T n)) := by
  have hn := H.1
  unfold f164
  simp only [w_k_let]
  generalize hv : (g_w (g_w (g_w (g_w (g_w (g_w (g_w (g_w (g_w (g_w (g_w (g_w s 199 4 0) 199 5 0) 199 6 0) 199 7 (-1)) 199 18 0) 199 21 0) 199 22 0) 199 23 0) 199 19 0) 199 24 0) 199 25 0) 199 20 0) = v
  have h5 : w_w_5 s v := by
    intro x b hx
    rw [← hv]
    simp (disch := omega) only [w_k_wq]
  have r : ∀ b, b = 5 ∨ b = 6 ∨ b = 18 ∨ b = 21 ∨ b = 22 ∨ b = 23 ∨ b = 24 ∨ b = 25 ∨ b = 20 ∨ b = 19 ∨ b = 4 → v 199 b = 0 := by
    intro b hb
    rw [← hv]
    rcases hb with h | h | h | h | h | h | h | h | h | h | h <;> rw [h] <;> simp (disch := omega) only [w_k_wq, w_k_wv]
  have r7 : v 199 7 = -1 := by rw [← hv]; simp (disch := omega) only [w_k_wq, w_k_wv]
  have HW : w_w_W v T n := w_w_W4 H (fun x b hx => h5 x b (by omega))
  have hU : w_w_U T n 0 (w_t_sk T n 0) v := ⟨HW, r 6 (by omega), ⟨r 5 (by omega), r7⟩, 0, r 4 (by omega), by omega, rfl⟩
  obtain ⟨t, q1, q2, q3, q4⟩ := w_w_139 hU
  rw [q1, w_k_bs]
  refine w_w_138L 25 _ s t ([], -1) (by simp) q2 q3 ⟨by rw [q4 199 18 (by omega), r 18 (by omega)]; rfl, by simp, ?_⟩ (w_w_5t h5 (w_w_45 (w_w_a4 q4)))
  refine w_w_G4 (w_w_a4 q4) ?_
  intro ha
  rw [r 21 (by omega), r 22 (by omega), r 24 (by omega), r 25 (by omega), r 20 (by omega), r 23 (by omega)]
  exact ⟨rfl, rfl, rfl, rfl, rfl, Or.inl ⟨rfl, rfl⟩⟩
end WY
/-! what a law's text says, asked of the model -/
def w_TR0 : w_k_TR := fun R N L => N ≤ 500 ∧ ∃ T : Nat → Int32, (∀ j, j < N → R j = T j) ∧ (∀ j, j < N → w_k_wi (T j) 0 255) ∧ w_t_law T N = .inr L
theorem w_q_clip_m {x : Int32} : (¬ x < 0 → g_min x 9999 = w_q_clip x) ∧ (x < 0 → (0 : Int32) = w_q_clip x) := by
  unfold w_q_clip g_min g_max
  constructor
  · intro h
    split
    · rename_i g
      have g' : ¬ x < 9999 := by rw [Int32.lt_iff_toInt_lt] at g ⊢; omega
      rw [if_neg g', if_pos (by decide)]
    · rename_i g
      by_cases g' : x < 9999
      · rw [if_pos g']
        by_cases g2 : 0 < x
        · rw [if_pos g2]
        · rw [if_neg g2]
          rw [Int32.lt_iff_toInt_lt] at h g2
          exact Int32.toInt_inj.1 (by omega)
      · rw [if_neg g', if_pos (by decide)]
        rw [Int32.lt_iff_toInt_lt] at g g'
        exact Int32.toInt_inj.1 (by omega)
  · intro h
    have g' : x < 9999 := by
      have : (9999 : Int32).toInt = 9999 := rfl
      have h0 : (0 : Int32).toInt = 0 := rfl
      rw [Int32.lt_iff_toInt_lt] at h ⊢; omega
    have g2 : ¬ (0 : Int32) < x := by rw [Int32.lt_iff_toInt_lt] at h ⊢; omega
    rw [if_pos g', if_neg g2]
theorem w_HA0 : w_k_HA w_TR0 := by
  intro s l N L k h t hl hN h206 hT hk hh ht
  obtain ⟨_, T, t1, t2, t3⟩ := hT
  unfold f168
  simp only [w_k_let]
  generalize hv : (g_w (g_w (g_w (g_w (g_w (g_w (g_w (g_w s 199 15 k) 199 16 h) 199 17 t) 199 21 0) 199 22 0) 199 24 0) 199 25 0) 199 20 0) = v
  have hvf : ∀ x b, ¬ (x = 199 ∧ 15 ≤ b ∧ b ≤ 25) → v x b = s x b := by
    intro x b hx
    rw [← hv]
    simp (disch := omega) only [w_k_wq]
  have v15 : v 199 15 = k := by rw [← hv]; simp (disch := omega) only [w_k_wq, w_k_wv]
  have v16 : v 199 16 = h := by rw [← hv]; simp (disch := omega) only [w_k_wq, w_k_wv]
  have v17 : v 199 17 = t := by rw [← hv]; simp (disch := omega) only [w_k_wq, w_k_wv]
  rw [if_neg (w_k_ne1 (by omega)), if_pos ((w_k_inI (by omega)).2 hl), w_k_nat (by omega)]
  generalize hw : g_w (g_w v 199 8 (nI l)) 199 2 (g_w v 199 8 (nI l) 206 l) = w
  have hwf : ∀ x b, ¬ (x = 199 ∧ (b = 2 ∨ b = 8)) → w x b = v x b := by
    intro x b hx
    rw [← hw]
    simp (disch := omega) only [w_k_wq]
  have w2 : w 199 2 = nI N := by
    rw [← hw, w_k_wv, w_k_wq (by omega), hvf 206 l (by omega)]; exact h206
  have w8 : w 199 8 = nI l := by rw [← hw, w_k_wq (by omega), w_k_wv]
  have HW : w_w_W w T N := ⟨hN, t2, w2, Or.inr ⟨l, hl, w8, fun j hj => by rw [hwf _ _ (by omega), hvf _ _ (by omega)]; exact t1 j hj⟩⟩
  obtain ⟨u, r1, r2, r3⟩ := w_w_164 HW
  rw [t3] at r3
  obtain ⟨r4, r5, r6⟩ := r3
  have ha : w_w_as u := by
    have w_e15 : u 199 15 = k := by rw [r2 199 15 (by omega), hwf 199 15 (by omega), v15]
    have e16 : u 199 16 = h := by rw [r2 199 16 (by omega), hwf 199 16 (by omega), v16]
    have e17 : u 199 17 = t := by rw [r2 199 17 (by omega), hwf 199 17 (by omega), v17]
    unfold w_w_as
    rw [w_e15, e16, e17]
    exact ⟨hk, hh, ht⟩
  obtain ⟨g1, g2, g3, g4, g5, g6⟩ := r6.2.2 ha
  have w_e207 : u 207 = s 207 := funext fun b => by rw [r2 207 b (by omega), hwf 207 b (by omega), hvf 207 b (by omega)]
  rw [r2 199 15 (by omega), hwf 199 15 (by omega), v15] at g1 g2 g3 g4 g6
  rw [r2 199 16 (by omega), hwf 199 16 (by omega), v16] at g1 g2
  rw [r2 199 17 (by omega), hwf 199 17 (by omega), v17] at g3
  rw [w_e207] at g1 g2 g6
  rw [r1, w_k_bs]
  unfold f168_63
  have huf : ∀ x b, ¬ (x = 199 ∧ (b = 2 ∨ (4 ≤ b ∧ b ≤ 8) ∨ (15 ≤ b ∧ b ≤ 25))) → u x b = s x b := fun x b hx => by rw [r2 x b (by omega), hwf x b (by omega), hvf x b (by omega)]
  have fin : ∀ y, y = w_q_owed L k (s 207) → ∃ z, (g_let (g_w u 199 19 y) fun s1 => some s1) = some z ∧ (∀ x b, ¬ (x = 199 ∧ (b = 2 ∨ (4 ≤ b ∧ b ≤ 8) ∨ (15 ≤ b ∧ b ≤ 25))) → z x b = s x b) ∧ z 199 21 = w_q_b (w_q_holds L 0 k h (s 207)) ∧ z 199 22 = w_q_b (w_q_holds L 1 k h (s 207)) ∧
    z 199 19 = w_q_owed L k (s 207) ∧ z 199 24 = w_q_b (w_q_lets L k t) ∧ z 199 25 = w_q_b (w_q_twice L k) ∧ z 199 20 = L.2 + 1 := by
    intro y hy
    refine ⟨_, rfl, fun x b hx => by rw [w_k_wq (by omega)]; exact huf x b hx, ?_, ?_, ?_, ?_, ?_, ?_⟩
    · rw [w_k_wq (by omega)]; exact g1
    · rw [w_k_wq (by omega)]; exact g2
    · rw [w_k_wv]; exact hy
    · rw [w_k_wq (by omega)]; exact g3
    · rw [w_k_wq (by omega)]; exact g4
    · rw [w_k_wq (by omega)]; exact g5
  rcases g6 with ⟨a1, a2⟩ | ⟨a1, a2⟩
  · rw [if_pos a1, w_e207]
    exact fin _ a2.symm
  · rw [if_neg (show ¬ u 199 23 = 0 by rw [a1]; decide)]
    by_cases g : u 199 19 < 0
    · rw [if_pos g]
      exact fin 0 (by rw [a2]; exact w_q_clip_m.2 g)
    · rw [if_neg g, w_e136, w_k_bs]
      exact fin _ (by rw [a2]; exact w_q_clip_m.1 g)
