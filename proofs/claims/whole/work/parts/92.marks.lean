/-! clauses, as the walk reads them -/
def w_w_5 (s u : g_S) : Prop := ∀ x b, ¬ (x = 199 ∧ ((4 ≤ b ∧ b ≤ 7) ∨ (18 ≤ b ∧ b ≤ 25))) → u x b = s x b
def w_w_f (s u : g_S) : Prop := ∀ x b, ¬ (x = 199 ∧ 18 ≤ b ∧ b ≤ 25) → u x b = s x b
theorem w_w_45 {s u : g_S} (h : w_w_4 s u) : w_w_5 s u := fun x b hx => h x b (by omega)
theorem w_w_f5 {s u : g_S} (h : w_w_f s u) : w_w_5 s u := fun x b hx => h x b (by omega)
theorem w_w_5r {s : g_S} : w_w_5 s s := fun _ _ _ => rfl
theorem w_w_5t {s t u : g_S} (h : w_w_5 s t) (g : w_w_5 t u) : w_w_5 s u := fun x b hx => (g x b hx).trans (h x b hx)
def w_w_as (s : g_S) : Prop := w_k_wi (s 199 15) 0 5 ∧ w_k_wi (s 199 16) 0 5 ∧ w_k_wi (s 199 17) 0 3
def w_w_G (L : w_q_L) (s : g_S) : Prop := w_w_as s → s 199 21 = w_q_b (w_q_holds L 0 (s 199 15) (s 199 16) (s 207)) ∧ s 199 22 = w_q_b (w_q_holds L 1 (s 199 15) (s 199 16) (s 207)) ∧
  s 199 24 = w_q_b (w_q_lets L (s 199 15) (s 199 17)) ∧ s 199 25 = w_q_b (w_q_twice L (s 199 15)) ∧ s 199 20 = L.2 + 1 ∧
  ((s 199 23 = 0 ∧ w_q_owed L (s 199 15) (s 207) = s 207 6) ∨ (s 199 23 = 1 ∧ w_q_owed L (s 199 15) (s 207) = w_q_clip (s 199 19)))
section WM
variable {T : Nat → Int32} {n : Nat}
theorem w_w_Uf {s u : g_S} {o p : Nat} (H : w_w_U T n o p s) (h : w_w_f s u) : w_w_U T n o p u := by
  obtain ⟨h1, h2, h3, a, h4, h5⟩ := H
  exact ⟨w_w_W4 h1 (fun x b hx => h x b (by omega)), by rw [h 199 6 (by omega)]; exact h2, ⟨by rw [h 199 5 (by omega)]; exact h3.1, by rw [h 199 7 (by omega)]; exact h3.2⟩, a, by rw [h 199 4 (by omega)]; exact h4, h5⟩
theorem w_w_Xf {s u : g_S} {d : Nat} {e : Int32 × Nat} (H : w_w_X d T n e s) (h : w_w_f s u) : w_w_X d T n e u := by
  obtain ⟨h1, h2, h3, h4, a, h5, h6⟩ := H
  exact ⟨w_w_W4 h1 (fun x b hx => h x b (by omega)), h2, by rw [h 199 6 (by omega)]; exact h3, by rw [h 199 7 (by omega)]; exact h4, a, by rw [h 199 4 (by omega)]; exact h5, h6⟩
theorem w_w_f1 {s : g_S} {b : Nat} {v : Int32} (h : 18 ≤ b ∧ b ≤ 25) : w_w_f s (g_w s 199 b v) := fun x c hx => by rw [w_k_wq (by omega)]
theorem w_w_as4 {s u : g_S} (h : w_w_5 s u) : w_w_as u → w_w_as s := fun ⟨a, b, c⟩ => ⟨by rw [← h 199 15 (by omega)]; exact a, by rw [← h 199 16 (by omega)]; exact b, by rw [← h 199 17 (by omega)]; exact c⟩
theorem w_w_5_207 {s u : g_S} (h : w_w_5 s u) : u 207 = s 207 := funext fun b => h 207 b (by omega)
theorem w_w_G4 {s u : g_S} {L : w_q_L} (h : w_w_4 s u) (H : w_w_G L s) : w_w_G L u := by
  intro ha
  have e := w_w_207 h
  have H := H (w_w_as4 (w_w_45 h) ha)
  rw [h 199 21 (by omega), h 199 22 (by omega), h 199 24 (by omega), h 199 25 (by omega), h 199 20 (by omega), h 199 23 (by omega), h 199 19 (by omega), h 199 15 (by omega), h 199 16 (by omega), h 199 17 (by omega), e]
  exact H
theorem w_w_Gup {s u : g_S} {cs : List w_q_C} {mix : Int32} {c : w_q_C} (H : w_w_G (cs, mix) s) (h5 : w_w_5 s u) (h20 : u 199 20 = s 199 20)
    (hu : w_w_as s → u 199 21 = (if w_q_hold1 c 0 (s 199 15) (s 199 16) (s 207) = true then 1 else s 199 21) ∧ u 199 22 = (if w_q_hold1 c 1 (s 199 15) (s 199 16) (s 207) = true then 1 else s 199 22) ∧
      u 199 24 = (if (w_q_is c 3 (s 199 15) && w_q_bit c.2.2.1 (s 199 17)) = true then 1 else s 199 24) ∧ u 199 25 = (if w_q_is c 4 (s 199 15) = true then 1 else s 199 25) ∧
      (w_q_is c 2 (s 199 15) = true → u 199 23 = 1 ∧ u 199 19 = w_q_work (s 207) c.2.2.2) ∧ (w_q_is c 2 (s 199 15) = false → u 199 23 = s 199 23 ∧ u 199 19 = s 199 19)) : w_w_G (cs ++ [c], mix) u := by
  intro ha
  have ha := w_w_as4 h5 ha
  obtain ⟨g1, g2, g3, g4, g5, g6⟩ := H ha
  obtain ⟨k1, k2, k3, k4, k5, k6⟩ := hu ha
  have o1 : ∀ (a b : Bool), (if b = true then (1 : Int32) else w_q_b a) = w_q_b (a || b) := by decide
  rw [w_w_5_207 h5, h5 199 15 (by omega), h5 199 16 (by omega), h5 199 17 (by omega), k1, k2, k3, k4, h20, g1, g2, g3, g4, g5, o1, o1, o1, o1]
  have a1 : ∀ t k h nm, w_q_holds (cs ++ [c], mix) t k h nm = (w_q_holds (cs, mix) t k h nm || w_q_hold1 c t k h nm) := fun t k h nm => by
    unfold w_q_holds; rw [List.any_append]; simp
  have a2 : ∀ k t, w_q_lets (cs ++ [c], mix) k t = (w_q_lets (cs, mix) k t || (w_q_is c 3 k && w_q_bit c.2.2.1 t)) := fun k t => by
    unfold w_q_lets; rw [List.any_append]; simp
  have a3 : ∀ k, w_q_twice (cs ++ [c], mix) k = (w_q_twice (cs, mix) k || w_q_is c 4 k) := fun k => by
    unfold w_q_twice; rw [List.any_append]; simp
  have a4 : ∀ k nm, w_q_owed (cs ++ [c], mix) k nm = if w_q_is c 2 k = true then w_q_clip (w_q_work nm c.2.2.2) else w_q_owed (cs, mix) k nm := fun k nm => by
    unfold w_q_owed
    show w_q_owes (cs ++ [c]).reverse k nm = _
    rw [List.reverse_append]; rfl
  rw [a1, a1, a2, a3, a4]
  refine ⟨rfl, rfl, rfl, rfl, rfl, ?_⟩
  cases hq : w_q_is c 2 (s 199 15) with
  | true =>
    rw [if_pos rfl, (k5 hq).1, (k5 hq).2]
    exact Or.inr ⟨rfl, rfl⟩
  | false =>
    rw [if_neg (by decide), (k6 hq).1, (k6 hq).2]
    exact g6
theorem w_e45 {s : g_S} {p1 x4 x5 : Int32} {b : Bool} : f163_45 s p1 (w_q_b b) x4 x5 = some (if p1 = 0 ∨ x4 = 0 ∨ x5 = 0 then s else if b = true then g_w s 199 22 1 else g_w s 199 21 1) := by
  unfold f163_45 f163_56
  by_cases h1 : p1 = 0
  · rw [if_pos h1, if_pos h1, if_pos (Or.inl h1)]
  · rw [if_neg h1]
    by_cases h2 : x4 = 0
    · rw [if_pos h2, if_neg h1, if_pos h2, if_pos (Or.inr (Or.inl h2))]
    · rw [if_neg h2]
      by_cases h3 : x5 = 0
      · rw [if_pos h3, if_neg h1, if_neg h2, if_pos h3, if_pos (Or.inr (Or.inr h3))]
      · cases b <;> simp [h1, h2, h3, g_let, w_q_b]
theorem w_e45f {s : g_S} {p1 x4 x5 : Int32} {b : Bool} : ∃ u, f163_45 s p1 (w_q_b b) x4 x5 = some u ∧ w_w_f s u := by
  refine ⟨_, w_e45, ?_⟩
  split
  · exact fun _ _ _ => rfl
  · split
    · exact w_w_f1 (by omega)
    · exact w_w_f1 (by omega)
def w_k_WC (T : Nat → Int32) (n p0 : Nat) (s : g_S) (cs : List w_q_C) (mix : Int32) (R : w_t_RC) (u : g_S) : Prop := w_w_5 s u ∧ u 199 18 = s 199 18 ∧ match R with
  | .inl e => w_w_X 1 T n e u
  | .inr (q, c) => w_w_U T n 0 q u ∧ p0 ≤ q ∧ w_w_G (cs ++ [c], mix) u
end WM
section WQ
variable {T : Nat → Int32} {n : Nat}
theorem w_q_is_d {a kb k t : Int32} {r : Int32 × List Int32} : w_q_is (a, (kb, r)) t k = (decide (a = t) && w_q_bit kb k) := rfl
theorem w_w_45c {s t : g_S} {p1 x4 x5 kb th : Int32} {p0 q0 : Nat} {xs : List Int32} {cs : List w_q_C} {mix : Int32} {b C : Bool} (HU : w_w_U T n 0 q0 t) (hp0 : p0 ≤ q0) (h4 : w_w_4 s t) (hG : w_w_G (cs, mix) s)
    (h1 : w_w_as s → p1 = w_q_b (w_q_bit kb (s 199 15))) (hx4 : w_w_as s → x4 = w_q_b (w_q_bit th (s 199 16))) (hx5 : x5 = w_q_b C) (hC : (xs.isEmpty || !decide (w_q_work (s 207) xs = 0)) = C) :
    w_OK (f163_45 t p1 (w_q_b b) x4 x5) (w_k_WC T n p0 s cs mix (.inr (q0, (w_q_b b, (kb, (th, xs)))))) := by
  obtain ⟨u, hu, hf⟩ := w_e45f (s := t) (p1 := p1) (x4 := x4) (x5 := x5) (b := b)
  have h18 : u 199 18 = s 199 18 := by
    have := hu
    rw [w_e45] at this
    cases this
    split
    · exact h4 199 18 (by omega)
    · split <;> (rw [w_k_wq (by omega)]; exact h4 199 18 (by omega))
  refine ⟨u, hu, w_w_5t (w_w_45 h4) (w_w_f5 hf), h18, w_w_Uf HU hf, hp0, ?_⟩
  rw [w_e45] at hu
  refine w_w_Gup (w_w_G4 h4 hG) (w_w_f5 hf) ?_ ?_
  · cases hu
    split
    · rfl
    · split <;> rw [w_k_wq (by omega)]
  · intro ha
    have ha' := w_w_as4 (w_w_45 h4) ha
    have w_e15 : t 199 15 = s 199 15 := h4 199 15 (by omega)
    have e16 : t 199 16 = s 199 16 := h4 199 16 (by omega)
    have e17 : t 199 17 = s 199 17 := h4 199 17 (by omega)
    rw [h1 ha', hx4 ha', hx5] at hu
    unfold w_q_hold1
    rw [w_w_207 h4, w_e15, e16, e17]
    dsimp only
    rw [hC]
    generalize w_q_bit th (s 199 16) = B at hu
    rw [w_q_is_d, w_q_is_d, w_q_is_d, w_q_is_d, w_q_is_d]
    generalize w_q_bit kb (s 199 15) = A at hu
    cases hu
    cases b <;> cases A <;> cases B <;> cases C <;> refine ⟨?_, ?_, ?_, ?_, ?_, ?_⟩ <;> first | rfl | (intro h; exact absurd h (by decide)) | (intro _; exact ⟨rfl, rfl⟩)
end WQ
section WR
variable {T : Nat → Int32} {n : Nat}
theorem w_x_45 {s t : g_S} {e : Int32 × Nat} {p0 : Nat} {p1 x4 x5 mix : Int32} {cs : List w_q_C} {b : Bool} (HX : w_w_X 1 T n e t) (h4 : w_w_4 s t) : w_OK (f163_45 t p1 (w_q_b b) x4 x5) (w_k_WC T n p0 s cs mix (.inl e)) := by
  obtain ⟨u, hu, hf⟩ := w_e45f (s := t) (p1 := p1) (x4 := x4) (x5 := x5) (b := b)
  refine ⟨u, hu, w_w_5t (w_w_45 h4) (w_w_f5 hf), ?_, w_w_Xf HX hf⟩
  rw [w_e45] at hu
  cases hu
  split
  · exact h4 199 18 (by omega)
  · split <;> (rw [w_k_wq (by omega)]; exact h4 199 18 (by omega))
theorem w_q_isE {x : Int32} (hx : w_k_PB x) : x = w_q_b (!decide (x = 0)) := by rcases hx with h | h <;> rw [h] <;> rfl
theorem w_w_21 {s0 s : g_S} {p p0 : Nat} {p1 kb mix : Int32} {cs : List w_q_C} {b : Bool} (H : w_w_U T n 0 p s) (h4 : s 199 4 = nI p) (hk : w_t_kd T n p = 256) (hp0 : p0 ≤ p) (h04 : w_w_4 s0 s) (hG : w_w_G (cs, mix) s0)
    (h1 : w_w_as s0 → p1 = w_q_b (w_q_bit kb (s0 199 15))) :
    w_OK (f163_21 s p1 (w_q_b b)) (w_k_WC T n p0 s0 cs mix (match w_t_list T n (w_t_harm T n) (w_t_nx T n p) with
    | .inl e => .inl e
    | .inr (q, th) => if w_t_wof T n q 5 = 0 then (match w_t_X T n (w_t_nx T n q) 0 with
      | .inl e => .inl e
      | .inr (r, xs) => .inr (r, (w_q_b b, (kb, (th, xs))))) else .inr (q, (w_q_b b, (kb, (th, [])))))) := by
  have hp := w_w_Up H
  have hB := H.1.2.1
  have hxp := w_t_nx_le (T := T) hp.1
  obtain ⟨t, q1, q2, q3⟩ := w_w_147 H h4 hk
  unfold f163_21
  rw [q1, w_k_bs]
  obtain ⟨⟨x4, u⟩, r1, r2, r3, r4⟩ := w_w_159 q2
  have h0u : w_w_4 s0 u := w_w_4t h04 (w_w_4t (w_w_a4 q3) r3)
  rw [r1, w_k_bd]
  cases hl : w_t_list T n (w_t_harm T n) (w_t_nx T n p) with
  | inl e =>
    rw [hl] at r4
    rw [if_neg (show ¬ u 199 6 = 0 by rw [show u 199 6 = e.1 from r4.2.2.1]; exact r4.2.1)]
    exact w_x_45 (w_x_mono r4) h0u
  | inr qt =>
    obtain ⟨q, th⟩ := qt
    rw [hl] at r4
    obtain ⟨r5, hpq, hV⟩ := r4
    have hq := w_w_Up r5
    have hxq := w_t_nx_le (T := T) hq.1
    have hx4 : w_w_as s0 → x4 = w_q_b (w_q_bit th (s0 199 16)) := fun ha => by
      have e16 : t 199 16 = s0 199 16 := (w_w_4t h04 (w_w_a4 q3)) 199 16 (by omega)
      have hV : w_k_wi (t 199 16) 0 5 → x4 = w_q_b (w_q_bit th (t 199 16)) := hV
      rw [e16] at hV
      exact hV ha.2.1
    rw [if_pos (show u 199 6 = 0 from r5.2.1)]
    obtain ⟨u2, a1, a2, a3, a4⟩ := w_w_146 (ws := [9, 6]) (p1 := 9) (p2 := 6) (p3 := 0) (p4 := 0) (p5 := 0) (p6 := 0) r5 (by decide) (fun _ => rfl)
    have hw := (w_t_wof1 (k := 5) hq.1 hB (by decide) rfl).1
    rw [a1, w_k_bd]
    dsimp only
    cases hf : w_t_isw T n q [9, 6] with
    | true =>
      have h5 := hw.2 hf
      rw [if_neg (show ¬ w_q_b true = 0 by decide), if_pos h5]
      obtain ⟨u3, b1, b2, b3⟩ := w_w_147 a2 a3 (w_t_wof_w (k := 5) (by rw [h5]; decide)).1
      obtain ⟨⟨v, u4⟩, c1, c2, c3, c4⟩ := w_w_Xc _ u3 b2
      have h04' : w_w_4 s0 u4 := w_w_4t h0u (w_w_4t (w_w_a4 a4) (w_w_4t (w_w_a4 b3) c3))
      rw [b1, w_k_bs, c1, w_k_bd]
      cases hX : w_t_X T n (w_t_nx T n q) 0 with
      | inl e =>
        rw [hX] at c4
        exact w_x_45 c4 h04'
      | inr ry =>
        obtain ⟨r, xs⟩ := ry
        rw [hX] at c4
        obtain ⟨c5, hqr, c6⟩ := c4
        have hv : w_q_work (s0 207) xs = v := by
          have e := c6 [] (by simp)
          rw [w_w_207 (w_w_4t h0u (w_w_4t (w_w_a4 a4) (w_w_a4 b3)))] at e
          unfold w_q_work w_q_run
          rw [e]; rfl
        have hne : xs.isEmpty = false := by
          cases xs with
          | nil => have e := c6 [] (by simp); cases e
          | cons _ _ => rfl
        refine w_w_45c (C := !decide (v = 0)) c5 (by omega) h04' hG h1 hx4 (w_q_isE c2) ?_
        rw [hv, hne]; rfl
    | false =>
      have h5 : ¬ w_t_wof T n q 5 = 0 := fun g => by rw [hw.1 g] at hf; cases hf
      rw [if_pos (show w_q_b false = 0 from rfl), if_neg h5]
      exact w_w_45c (C := true) a2 (by omega) (w_w_4t h0u (w_w_a4 a4)) hG h1 hx4 rfl rfl
end WR
