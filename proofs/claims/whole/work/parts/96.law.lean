/-! what a law read is like -/
section HH
variable {T : Nat → Int32} {n : Nat}
theorem w_t_ok {L : w_q_L} (hn : n ≤ 500) (hB : ∀ j, j < n → w_k_wi (T j) 0 255) (h : w_t_law T n = .inr L) : w_q_ok L := by
  obtain ⟨v, u, _, _, h3⟩ := w_e44 (s := fun x j => if x = 1 then T j else 0) (T := T) (n := n) (l := 86 + 8 * 0) (fun j _ => if_pos rfl) hn hB (by omega) (by omega) (te_5 (by omega))
  rw [h] at h3
  exact w_k_LRok h3.2
theorem w_t_w2 {p : Nat} (h : ¬ w_t_wof T n p 2 = -1) : ∃ k, w_t_wof T n p 2 = nI k ∧ k < 2 := by
  unfold w_t_wof at h ⊢
  by_cases g : w_t_kd T n p = 256
  · rw [if_pos g] at h ⊢
    rw [w_t_wl_rg _ 2 (by decide)] at h ⊢
    have e : ∀ same : Nat → Nat → Bool, w_t_fr same (w_t_rg 2) 0 = if same 0 5 = true then nI 0 else if same 6 10 = true then nI 1 else -1 := fun _ => rfl
    rw [e] at h ⊢
    split
    · exact ⟨0, rfl, by omega⟩
    · rename_i h1
      rw [if_neg h1] at h
      split
      · exact ⟨1, rfl, by omega⟩
      · rename_i h2
        rw [if_neg h2] at h
        exact absurd rfl h
  · rw [if_neg g] at h; exact absurd rfl h
def w_t_mx (L : w_q_L) : Prop := L.2 = -1 ∨ L.2 = 0 ∨ L.2 = 1
theorem w_t_cl_mx {p q : Nat} {L M : w_q_L} (hL : w_t_mx L) (h : w_t_cl T n p L = .inr (q, M)) : w_t_mx M := by
  unfold w_t_cl at h
  split at h
  · cases h
  · split at h
    · cases h
    · split at h
      · split at h
        · cases h
        · rename_i h2
          rw [w_t_end_len h]
          obtain ⟨k, k1, k2⟩ := w_t_w2 h2
          unfold w_t_mx
          dsimp only
          rw [k1]
          match k, k2 with
          | 0, _ => exact Or.inr (Or.inl rfl)
          | 1, _ => exact Or.inr (Or.inr rfl)
      · split at h
        · cases h
        · rw [w_t_end_len h]; exact hL
theorem w_t_ps_mx : ∀ k p L M, w_t_mx L → w_t_ps T n k p L = .inr M → w_t_mx M
  | 0, p, L, M, hL, h => by unfold w_t_ps at h; cases h; exact hL
  | k + 1, p, L, M, hL, h => by
    unfold w_t_ps at h
    split at h
    · cases h; exact hL
    · cases hR : w_t_cl T n p L with
      | inl e => rw [hR] at h; cases h
      | inr qM =>
        obtain ⟨q, M'⟩ := qM
        rw [hR] at h
        exact w_t_ps_mx k q M' M (w_t_cl_mx hL hR) h
end HH
theorem w_HH0 : w_k_HH w_TR0 := ⟨w_HA0, fun T n L h => by
  obtain ⟨h1, T', _, h2, h3⟩ := h
  exact w_t_ok h1 h2 h3, fun T n L h => by
  obtain ⟨h1, T', _, h2, h3⟩ := h
  exact w_t_ps_mx _ _ _ _ (Or.inl rfl) h3⟩
/-! the model's call law -/
theorem w_e165_52 {N l : Nat} (hN : N ≤ 500) (hl : l < 4) : ∀ d i (t : g_S), i + d = N → t 199 12 = nI l → ∃ u, f165_52L t (nI N) (nI i) = f165_68 u (nI N) ∧ (∀ j, j < i → u (202 + l) j = t (202 + l) j) ∧ (∀ j, i ≤ j → j < N → u (202 + l) j = t 200 j) ∧ ∀ x b, x ≠ 202 + l → u x b = t x b
  | 0, i, t, e, h12 => by
    have e' : i = N := by omega
    subst e'
    refine ⟨t, ?_, fun _ _ => rfl, fun j h1 h2 => absurd h1 (by omega), fun _ _ _ => rfl⟩
    rw [f165_52L_eq]; unfold f165_52
    rw [if_neg (w_k_nlt (by omega) (by omega) (by omega))]
    cases f165_68 t (nI i) <;> rfl
  | d + 1, i, t, e, h12 => by
    rw [f165_52L_eq]; unfold f165_52
    rw [if_pos ((w_k_lt (by omega) (by omega)).2 (by omega)), h12, if_pos ((w_k_inI (by omega)).2 hl), if_pos ((w_k_inI (by omega)).2 (by omega)), w_k_nat (by omega), w_k_nat (by omega), w_k_let, w_k_s1]
    obtain ⟨u, q1, q2, q3, q4⟩ := w_e165_52 hN hl d (i + 1) (g_w t (202 + l) i (t 200 i)) (by omega) (by rw [w_k_wq (by omega)]; exact h12)
    refine ⟨u, q1, fun j hj => ?_, fun j h1 h2 => ?_, fun x b hx => ?_⟩
    · rw [q2 j (by omega), w_k_wq (by omega)]
    · by_cases ej : j = i
      · subst ej; rw [q2 j (by omega), w_k_wv]
      · rw [q3 j (by omega) h2, w_k_wq (by omega)]
    · rw [q4 x b hx, w_k_wq (by omega)]
theorem w_mi_law {s u : g_S} {A : w_k_A} {f : Int32} {Ls : List w_q_L} (hA : w_k_Aok A) (H : w_k_MI w_TR0 s A) (h : ∀ x b, ¬ (x = 199 ∧ (b ≤ 8 ∨ b = 12 ∨ (18 ≤ b ∧ b ≤ 25))) → ¬ (202 ≤ x ∧ x ≤ 206) → u x b = s x b)
    (h1 : u 199 1 = 0) (h12 : u 199 12 = nI Ls.length) (h3 : u 199 3 = f) (hL : ∀ l L, Ls[l]? = some L → ∃ n, n ≤ 500 ∧ u 206 l = nI n ∧ w_TR0 (u (202 + l)) n L) : w_k_MI w_TR0 u (w_a_law0 A f Ls) := by
  obtain ⟨b1, b2, b3, b4, b5⟩ := H
  have fr : ∀ x, x ≠ 199 → ¬ (202 ≤ x ∧ x ≤ 206) → u x = s x := fun x h0 h1 => funext fun c => h x c (by omega) h1
  refine ⟨⟨h1, h12, h3, ?_⟩, fun j hj => absurd hj (by show ¬ j < 0; omega), hL, ?_, fun m V hm => ?_⟩
  · rw [h 199 52 (by omega) (by omega)]; exact b1.2.2.2
  · refine w_k_MV_mk b4 (fun _ _ => rfl) (fun x h1 h2 => fr x (by omega) (by omega)) ?_
    rw [h 199 26 (by omega) (by omega), h 199 27 (by omega) (by omega), h 199 28 (by omega) (by omega), h 199 29 (by omega) (by omega), h 199 13 (by omega) (by omega), h 199 43 (by omega) (by omega), h 199 49 (by omega) (by omega), h 199 50 (by omega) (by omega)]
    exact b4.1
  · intro j hj
    rw [fr (561 + m) (by omega) (by omega)]; exact b5 m V hm j hj
theorem w_m_lawop {s : g_S} {A : w_k_A} {n : Int32} (hA : w_k_Aok A) (H : w_k_MI w_TR0 s A) : w_k_mop w_TR0 w_k_cI s (f165 s n) (w_a_lawop A n).1 (w_a_lawop A n).2 := by
  have h500 := hA.1
  have hlen := hA.2.2.1
  have hH := H
  obtain ⟨b1, b2, b3, b4, b5⟩ := H
  unfold f165 w_a_lawop
  rw [w_k_let, w_e135, w_k_bs, w_k_wq (by omega), b1.1]
  by_cases hw : w_k_wi n 0 (nI A.1.1)
  · rw [w_k_ift hw, if_neg (by decide), if_pos hw]
    obtain ⟨N, hN, rfl⟩ := w_k_iL A.1.1 hw rfl (by omega)
    unfold f165_13
    rw [w_e134o (by rw [w_k_wv]), w_k_bd, if_pos rfl, w_k_let, w_k_let, w_k_wq (by omega), w_k_wq (by omega), w_k_wq (by omega), b1.2.1]
    generalize hv : g_w (g_w (g_w s 199 0 0) 199 1 0) 199 3 (-1) = v
    have hvf : ∀ x b, ¬ (x = 199 ∧ (b = 0 ∨ b = 1 ∨ b = 3)) → v x b = s x b := by
      intro x b hx
      rw [← hv]
      simp (disch := omega) only [w_k_wq]
    have v0 : v 199 0 = 0 := by rw [← hv]; simp (disch := omega) only [w_k_wq, w_k_wv]
    have v1 : v 199 1 = 0 := by rw [← hv]; simp (disch := omega) only [w_k_wq, w_k_wv]
    have v3 : v 199 3 = -1 := by rw [← hv]; simp (disch := omega) only [w_k_wq, w_k_wv]
    have oldl : ∀ u : g_S, (∀ i, i < A.2.2.1.length → u 206 i = s 206 i ∧ u (202 + i) = s (202 + i)) → ∀ l L, A.2.2.1[l]? = some L → ∃ n, n ≤ 500 ∧ u 206 l = nI n ∧ w_TR0 (u (202 + l)) n L := by
      intro u hu l L hL
      obtain ⟨k, h1, h2, h3⟩ := b3 l L hL
      have := hu l (w_k_lt_of hL)
      exact ⟨k, h1, by rw [this.1]; exact h2, by rw [this.2]; exact h3⟩
    by_cases h4 : A.2.2.1.length = 4
    · rw [if_pos (show nI A.2.2.1.length = 4 by rw [h4]; rfl), if_pos h4]
      refine w_ok_some ⟨w_mi_law hA hH (fun x b h1 h2 => hvf x b (by omega)) v1 (by dsimp only; rw [hvf 199 12 (by omega)]; exact b1.2.1) v3 (oldl v fun i hi => ⟨hvf _ _ (by omega), funext fun b => hvf _ _ (by omega)⟩), fun y hy => funext fun b => hvf y b (by omega), fun w hw => by cases hw; exact ⟨v0, rfl⟩, fun e he => by cases he⟩
    · have h4n : ¬ nI A.2.2.1.length = 4 := fun e => h4 ((w_k_eq (b := 4) (by omega) (by omega)).1 e)
      rw [if_neg h4n, if_neg h4, w_k_let, w_k_let, w_k_nat (by omega)]
      generalize hq : g_w (g_w v 199 8 (-1)) 199 2 (nI N) = q
      have hqf : ∀ x b, ¬ (x = 199 ∧ (b = 2 ∨ b = 8)) → q x b = v x b := by
        intro x b hx
        rw [← hq]
        simp (disch := omega) only [w_k_wq]
      have HW : w_w_W q A.1.2 N := ⟨by omega, fun j hj => hA.2.1 j (by omega), by rw [← hq, w_k_wv], Or.inl ⟨by rw [← hq, w_k_wq (by omega), w_k_wv], fun j hj => by rw [hqf 200 j (by omega), hvf 200 j (by omega)]; exact b2 j (by omega)⟩⟩
      obtain ⟨u, r1, r2, r3⟩ := w_w_164 HW
      have huf : ∀ x b, ¬ (x = 199 ∧ (b ≤ 8 ∨ (18 ≤ b ∧ b ≤ 25))) → u x b = s x b := fun x b hx => by rw [r2 x b (by omega), hqf x b (by omega), hvf x b (by omega)]
      rw [r1, w_k_bs, w_k_let]
      have u12 : u 199 12 = nI A.2.2.1.length := by rw [huf 199 12 (by omega)]; exact b1.2.1
      have u1 : u 199 1 = 0 := by rw [r2 199 1 (by omega), hqf 199 1 (by omega), v1]
      have u0 : u 199 0 = 0 := by rw [r2 199 0 (by omega), hqf 199 0 (by omega), v0]
      cases hR : w_t_law A.1.2 N with
      | inl e =>
        rw [hR] at r3
        have e6 : u 199 6 = e.1 := r3.2.2.1
        have w_e7 : u 199 7 = nI e.2 := r3.2.2.2.1
        rw [w_k_wq (by omega), e6, if_neg r3.2.1]
        refine w_ok_some ⟨w_mi_law hA hH (fun x b h1 h2 => ?_) ?_ ?_ ?_ (oldl _ fun i hi => ⟨?_, funext fun b => ?_⟩), fun y hy => funext fun b => ?_, fun w hw => ?_, fun e he => by cases he⟩
        · dsimp only; rw [w_k_wq (by omega), huf x b (by omega)]
        · dsimp only; rw [w_k_wq (by omega), u1]
        · dsimp only; rw [w_k_wq (by omega), u12]
        · dsimp only; rw [w_k_wv, w_e7]
        · dsimp only; rw [w_k_wq (by omega), huf _ _ (by omega)]
        · dsimp only; rw [w_k_wq (by omega), huf _ _ (by omega)]
        · dsimp only; rw [w_k_wq (by omega), huf _ _ (by omega)]
        · cases hw; exact ⟨by dsimp only; rw [w_k_wq (by omega), u0], rfl⟩
      | inr L =>
        rw [hR] at r3
        obtain ⟨e6, w_e7, _⟩ := r3
        rw [w_k_wq (by omega), e6, if_pos rfl, w_e7]
        have hl4 : A.2.2.1.length < 4 := by omega
        obtain ⟨t, c1, c2, c3, c4⟩ := w_e165_52 (N := N) (l := A.2.2.1.length) (by omega) hl4 N 0 (g_w u 199 3 (-1)) (by omega) (by rw [w_k_wq (by omega), u12])
        rw [show f165_52L (g_w u 199 3 (-1)) (nI N) 0 = _ from c1]
        have t12 : t 199 12 = nI A.2.2.1.length := by rw [c4 199 12 (by omega), w_k_wq (by omega), u12]
        unfold f165_68
        rw [t12, if_pos ((w_k_inI (by omega)).2 hl4), w_k_nat (by omega), w_k_let, w_k_let, w_k_wv, w_k_wq (by omega), t12, w_k_s1, w_k_m1]
        have tf : ∀ x b, x ≠ 202 + A.2.2.1.length → ¬ (x = 199 ∧ b = 3) → t x b = u x b := fun x b h1 h2 => by rw [c4 x b h1, w_k_wq h2]
        have hlen2 : (A.2.2.1 ++ [L]).length = A.2.2.1.length + 1 := by simp
        refine w_ok_some ⟨w_mi_law hA hH (fun x b h1 h2 => ?_) ?_ ?_ ?_ (fun l M hM => ?_), fun y hy => funext fun b => ?_, fun w hw => ?_, fun e he => by cases he⟩
        · dsimp only; rw [w_k_wq (by omega), w_k_wq (by omega), tf x b (by omega) (by omega), huf x b (by omega)]
        · dsimp only; rw [w_k_wq (by omega), w_k_wq (by omega), tf _ _ (by omega) (by omega), u1]
        · dsimp only; rw [w_k_wv, hlen2]
        · dsimp only; rw [w_k_wq (by omega), w_k_wq (by omega), c4 199 3 (by omega), w_k_wv]
        · have hi := w_k_lt_of hM
          rw [hlen2] at hi
          dsimp only
          by_cases el : l = A.2.2.1.length
          · subst el
            rw [List.getElem?_append_right (Nat.le_refl _), Nat.sub_self] at hM
            cases hM
            refine ⟨N, by omega, by rw [w_k_wq (by omega), w_k_wv], by omega, A.1.2, fun j hj => ?_, fun j hj => hA.2.1 j (by omega), hR⟩
            rw [w_k_wq (by omega), w_k_wq (by omega), c3 j (by omega) hj, w_k_wq (by omega), huf 200 j (by omega)]
            exact b2 j (by omega)
          · rw [List.getElem?_append_left (by omega)] at hM
            obtain ⟨k, h1, h2, h3⟩ := b3 l M hM
            refine ⟨k, h1, by rw [w_k_wq (by omega), w_k_wq (by omega), tf _ _ (by omega) (by omega), huf _ _ (by omega)]; exact h2, ?_⟩
            have er : (g_w (g_w t 206 A.2.2.1.length (nI N)) 199 12 (nI (A.2.2.1.length + 1))) (202 + l) = s (202 + l) := funext fun b => by rw [w_k_wq (by omega), w_k_wq (by omega), tf _ _ (by omega) (by omega), huf _ _ (by omega)]
            rw [er]; exact h3
        · dsimp only; rw [w_k_wq (by omega), w_k_wq (by omega), tf _ _ (by omega) (by omega), huf _ _ (by omega)]
        · cases hw; exact ⟨by dsimp only; rw [w_k_wq (by omega), w_k_wq (by omega), tf _ _ (by omega) (by omega), u0], rfl⟩
  · rw [w_k_iff hw, if_pos rfl, if_neg hw]
    unfold f165_13
    rw [w_e134b (by rw [w_k_wv]) (by decide), w_k_bd, if_neg (by decide)]
    refine w_ok_some ⟨w_k_MI_cg hA (fun x b h1 h2 h3 => ?_) hH, fun y hy => funext fun b => ?_, fun w hw => (by cases hw), fun e he => ?_⟩
    · dsimp only; rw [w_k_wq (by unfold w_k_sM at h3; omega), w_k_wq (by unfold w_k_sM at h3; omega)]
    · dsimp only; rw [w_k_wq (by omega), w_k_wq (by omega)]
    · cases he; dsimp only; rw [w_k_wv]; rfl
/-! the call law in the script -/
theorem w_op_82 : w_k_H82 w_TR0 := by
  intro X s A ex x4 hA h1
  unfold f251_82
  refine w_ok_gd h1 ?_
  unfold f222
  exact w_glue (r := (w_a_lawop A (X.2 (x4 + 1).toNatClampNeg)).1) (B := (w_a_lawop A (X.2 (x4 + 1).toNatClampNeg)).2) (cd := w_k_cI) hA (w_v_lawop hA.1) (w_c_lawop hA.1 hA.2.1) (fun t ht => w_m_lawop hA.1 ht) (fun e t he => by unfold w_a_lawop at he; (repeat' split at he) <;> cases he <;> exact ⟨rfl, by decide⟩) (fun _ _ _ _ _ _ => rfl)
