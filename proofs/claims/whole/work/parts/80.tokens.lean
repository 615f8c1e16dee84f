/-! texts, token by token -/
def w_t_let (x : Int32) : Bool := decide (¬ x < 97 ∧ ¬ 122 < x)
def w_t_dig (x : Int32) : Bool := decide (¬ x < 48 ∧ ¬ 57 < x)
def w_t_bl (x : Int32) : Bool := decide (x = 32)
def w_t_run (f : Int32 → Bool) (T : Nat → Int32) (n : Nat) : Nat → Nat → Nat
  | 0, p => p
  | k + 1, p => if p < n ∧ f (T p) = true then w_t_run f T n k (p + 1) else p
def w_t_sk (T : Nat → Int32) (n p : Nat) : Nat := w_t_run w_t_bl T n n p
def w_t_te (T : Nat → Int32) (n p : Nat) : Nat := if p < n then (if w_t_let (T p) = true then w_t_run w_t_let T n n p else if w_t_dig (T p) = true then w_t_run w_t_dig T n n p else p + 1) else p
def w_t_kd (T : Nat → Int32) (n p : Nat) : Int32 := if p < n then (if w_t_let (T p) = true then 256 else if w_t_dig (T p) = true then 257 else T p) else 258
def w_t_nx (T : Nat → Int32) (n p : Nat) : Nat := w_t_sk T n (w_t_te T n p)
def w_t_nl (T : Nat → Int32) (n : Nat) : Nat → Nat → Int32 → Int32
  | 0, _, v => v
  | k + 1, p, v => if p < n ∧ w_t_dig (T p) = true then w_t_nl T n k (p + 1) (g_min 10000 ((10 * v + T p) - 48)) else v
def w_t_num (T : Nat → Int32) (n p : Nat) : Int32 := w_t_nl T n n p 0
theorem w_t_run_le {f : Int32 → Bool} {T : Nat → Int32} {n : Nat} : ∀ k p, p ≤ n → p ≤ w_t_run f T n k p ∧ w_t_run f T n k p ≤ n
  | 0, p, h => ⟨Nat.le_refl _, h⟩
  | k + 1, p, h => by
    unfold w_t_run; split
    · rename_i h1
      have := w_t_run_le (f := f) (T := T) k (p + 1) h1.1
      omega
    · exact ⟨Nat.le_refl _, h⟩
theorem w_t_run_end {f : Int32 → Bool} {T : Nat → Int32} {n : Nat} : ∀ k p, n < p + k + 1 → ¬ (w_t_run f T n k p < n ∧ f (T (w_t_run f T n k p)) = true)
  | 0, p, h => by unfold w_t_run; omega
  | k + 1, p, h => by
    unfold w_t_run; split
    · exact w_t_run_end k (p + 1) (by omega)
    · assumption
theorem w_t_run_k {f : Int32 → Bool} {T : Nat → Int32} {n : Nat} : ∀ k j p, n ≤ p + k → w_t_run f T n (k + j) p = w_t_run f T n k p
  | 0, 0, p, h => rfl
  | 0, j + 1, p, h => by
    show (if p < n ∧ f (T p) = true then _ else p) = p
    rw [if_neg (by omega)]
  | k + 1, j, p, h => by
    rw [show k + 1 + j = (k + j) + 1 by omega]
    unfold w_t_run; split
    · exact w_t_run_k k j (p + 1) (by omega)
    · rfl
theorem w_t_te_le {T : Nat → Int32} {n p : Nat} (h : p ≤ n) : p ≤ w_t_te T n p ∧ w_t_te T n p ≤ n := by
  unfold w_t_te; split
  · split
    · exact w_t_run_le n p h
    · split
      · exact w_t_run_le n p h
      · omega
  · omega
theorem w_t_te_lt {T : Nat → Int32} {n p : Nat} (h : p < n) : p < w_t_te T n p := by
  unfold w_t_te; rw [if_pos h]
  have key : ∀ f : Int32 → Bool, f (T p) = true → p < w_t_run f T n n p := by
    intro f hf
    obtain ⟨m, rfl⟩ : ∃ m, n = m + 1 := ⟨n - 1, by omega⟩
    rw [show w_t_run f T (m + 1) (m + 1) p = w_t_run f T (m + 1) m (p + 1) by show (if p < m + 1 ∧ f (T p) = true then _ else p) = _; rw [if_pos ⟨h, hf⟩]]
    have := (w_t_run_le (f := f) (T := T) (n := m + 1) m (p + 1) (by omega)).1
    omega
  split
  · exact key _ (by assumption)
  · split
    · exact key _ (by assumption)
    · omega
theorem w_t_sk_le {T : Nat → Int32} {n p : Nat} (h : p ≤ n) : p ≤ w_t_sk T n p ∧ w_t_sk T n p ≤ n := w_t_run_le n p h
theorem w_t_nx_le {T : Nat → Int32} {n p : Nat} (h : p ≤ n) : p ≤ w_t_nx T n p ∧ w_t_nx T n p ≤ n := by
  have h1 := w_t_te_le (T := T) h
  have h2 := w_t_sk_le (T := T) h1.2
  unfold w_t_nx; omega
theorem w_t_nx_lt {T : Nat → Int32} {n p : Nat} (h : p < n) : p < w_t_nx T n p := by
  have h1 := w_t_te_lt (T := T) h
  have h2 := w_t_te_le (T := T) (Nat.le_of_lt h)
  have h3 := w_t_sk_le (T := T) h2.2
  unfold w_t_nx; omega
def w_k_RT (s : g_S) (T : Nat → Int32) (n l : Nat) : Prop := s 11 2 = 1 ∧ s 11 3 = nI n ∧ s 11 4 = nI l ∧ ∀ j, j < n → s 1 j = T j
def w_k_RS (s : g_S) (T : Nat → Int32) (n l p : Nat) : Prop := w_k_RT s T n l ∧ s 11 6 = nI p ∧ s 11 7 = nI (w_t_te T n p) ∧ s 11 5 = w_t_kd T n p ∧ (w_t_kd T n p = 257 → s 11 8 = w_t_num T n p) ∧ p ≤ n
section TK
variable {s : g_S} {T : Nat → Int32} {n l : Nat}
theorem w_k_g1t : g_lay 1 = (1, (500, [])) := by decide +kernel
theorem w_k_rd {s : g_S} {j : Nat} (h2 : s 11 2 = 1) (hj : j < 500) : (g_lay (s 11 2).toNatClampNeg = (1, ((g_lay (s 11 2).toNatClampNeg).2.1, (g_lay (s 11 2).toNatClampNeg).2.2)) ∧ m_in (nI j) (g_lay (s 11 2).toNatClampNeg).2.1 = true) := by
  rw [h2, show (1 : Int32).toNatClampNeg = 1 from rfl, w_k_g1t]
  exact ⟨rfl, (w_k_inI (by omega)).2 hj⟩
theorem w_e69 (s : g_S) (x : Int32) : f69 s x = some (w_q_b (w_t_let x)) := by
  unfold f69 w_t_let w_q_b
  by_cases h1 : x < 97
  · rw [if_pos h1, decide_eq_false (fun h => h.1 h1)]; rfl
  · rw [if_neg h1]
    by_cases h2 : 122 < x
    · rw [if_pos h2, decide_eq_false (fun h => h.2 h2)]; rfl
    · rw [if_neg h2, decide_eq_true ⟨h1, h2⟩]; rfl
theorem w_e70 (s : g_S) (x : Int32) : f70 s x = some (w_q_b (w_t_dig x)) := by
  unfold f70 w_t_dig w_q_b
  by_cases h1 : x < 48
  · rw [if_pos h1, decide_eq_false (fun h => h.1 h1)]; rfl
  · rw [if_neg h1]
    by_cases h2 : 57 < x
    · rw [if_pos h2, decide_eq_false (fun h => h.2 h2)]; rfl
    · rw [if_neg h2, decide_eq_true ⟨h1, h2⟩]; rfl
theorem w_e68_46 (hn : n ≤ 500) : ∀ k p (t : g_S), n < p + k + 1 → p ≤ n → w_k_RT t T n l → t 11 7 = nI p → ∃ u, f68_46L t = some u ∧ u 11 7 = nI (w_t_run w_t_let T n k p) ∧ ∀ x b, ¬ (x = 11 ∧ b = 7) → u x b = t x b
  | 0, p, t, hk, hp, ht, h7 => by
    rw [f68_46L_eq]; unfold f68_46
    rw [h7, ht.2.1, if_neg (w_k_nlt (by omega) (by omega) (by omega))]
    exact ⟨t, rfl, h7, fun _ _ _ => rfl⟩
  | k + 1, p, t, hk, hp, ht, h7 => by
    rw [f68_46L_eq]; unfold f68_46 w_t_run
    rw [h7, ht.2.1]
    by_cases h : p < n
    · rw [if_pos ((w_k_lt (by omega) (by omega)).2 h), if_pos (w_k_rd ht.1 (by omega)), w_e69, w_k_bs, ht.1, show (1 : Int32).toNatClampNeg = 1 from rfl, w_k_nat (by omega), ht.2.2.2 p h]
      cases hf : w_t_let (T p) with
      | false =>
        rw [if_pos (show w_q_b false = 0 from rfl), if_neg (by rintro ⟨_, h⟩; cases h)]
        exact ⟨t, rfl, h7, fun _ _ _ => rfl⟩
      | true =>
        rw [if_neg (by decide), if_pos ⟨h, rfl⟩, w_k_let, w_k_s1]
        obtain ⟨u, q1, q2, q3⟩ := w_e68_46 hn k (p + 1) (g_w t 11 7 (nI (p + 1))) (by omega) (by omega) ⟨by rw [w_k_wq (by omega)]; exact ht.1, by rw [w_k_wq (by omega)]; exact ht.2.1, by rw [w_k_wq (by omega)]; exact ht.2.2.1, fun j hj => by rw [w_k_wn (by omega)]; exact ht.2.2.2 j hj⟩ w_k_wv
        exact ⟨u, q1, q2, fun x b hx => by rw [q3 x b hx, w_k_wq hx]⟩
    · rw [if_neg (w_k_nlt (by omega) (by omega) h), if_neg (fun g => h g.1)]
      exact ⟨t, rfl, h7, fun _ _ _ => rfl⟩
theorem w_e68_78 (hn : n ≤ 500) : ∀ k p v (t : g_S), n < p + k + 1 → p ≤ n → w_k_RT t T n l → t 11 7 = nI p → t 11 8 = v → ∃ u, f68_78L t = some u ∧ u 11 7 = nI (w_t_run w_t_dig T n k p) ∧ u 11 8 = w_t_nl T n k p v ∧ ∀ x b, ¬ (x = 11 ∧ (b = 7 ∨ b = 8)) → u x b = t x b
  | 0, p, v, t, hk, hp, ht, h7, h8 => by
    rw [f68_78L_eq]; unfold f68_78
    rw [h7, ht.2.1, if_neg (w_k_nlt (by omega) (by omega) (by omega))]
    exact ⟨t, rfl, h7, h8, fun _ _ _ => rfl⟩
  | k + 1, p, v, t, hk, hp, ht, h7, h8 => by
    rw [f68_78L_eq]; unfold f68_78 w_t_run w_t_nl
    rw [h7, ht.2.1]
    by_cases h : p < n
    · rw [if_pos ((w_k_lt (by omega) (by omega)).2 h), if_pos (w_k_rd ht.1 (by omega)), if_pos (w_k_rd ht.1 (by omega)), w_e70, w_k_bs, ht.1, show (1 : Int32).toNatClampNeg = 1 from rfl, w_k_nat (by omega), ht.2.2.2 p h]
      cases hf : w_t_dig (T p) with
      | false =>
        rw [if_pos (show w_q_b false = 0 from rfl), if_neg (by rintro ⟨_, h⟩; cases h), if_neg (by rintro ⟨_, h⟩; cases h)]
        exact ⟨t, rfl, h7, h8, fun _ _ _ => rfl⟩
      | true =>
        rw [if_neg (by decide), if_pos ⟨h, rfl⟩, if_pos ⟨h, rfl⟩, w_k_let, w_k_let, h8, w_k_wq (by omega), h7, w_k_s1]
        obtain ⟨u, q1, q2, q2', q3⟩ := w_e68_78 hn k (p + 1) (g_min 10000 (10 * v + T p - 48)) (g_w (g_w t 11 8 (g_min 10000 (10 * v + T p - 48))) 11 7 (nI (p + 1))) (by omega) (by omega) ⟨by rw [w_k_wq (by omega), w_k_wq (by omega)]; exact ht.1, by rw [w_k_wq (by omega), w_k_wq (by omega)]; exact ht.2.1, by rw [w_k_wq (by omega), w_k_wq (by omega)]; exact ht.2.2.1, fun j hj => by rw [w_k_wn (by omega), w_k_wn (by omega)]; exact ht.2.2.2 j hj⟩ w_k_wv (by rw [w_k_wq (by omega), w_k_wv])
        exact ⟨u, q1, q2, q2', fun x b hx => by rw [q3 x b hx, w_k_wq (by omega), w_k_wq (by omega)]⟩
    · rw [if_neg (w_k_nlt (by omega) (by omega) h), if_neg (fun g => h g.1), if_neg (fun g => h g.1)]
      exact ⟨t, rfl, h7, h8, fun _ _ _ => rfl⟩
theorem w_k_RT_w {t : g_S} {b : Nat} {v : Int32} (h : w_k_RT t T n l) (hb : 5 ≤ b ∨ b ≤ 1) : w_k_RT (g_w t 11 b v) T n l :=
  ⟨by rw [w_k_wq (by omega)]; exact h.1, by rw [w_k_wq (by omega)]; exact h.2.1, by rw [w_k_wq (by omega)]; exact h.2.2.1, fun j hj => by rw [w_k_wn (by omega)]; exact h.2.2.2 j hj⟩
theorem w_k_RT_f {t u : g_S} (h : w_k_RT t T n l) (hu : ∀ x b, ¬ (x = 11 ∧ 5 ≤ b) → u x b = t x b) : w_k_RT u T n l :=
  ⟨by rw [hu _ _ (by omega)]; exact h.1, by rw [hu _ _ (by omega)]; exact h.2.1, by rw [hu _ _ (by omega)]; exact h.2.2.1, fun j hj => by rw [hu 1 j (by omega)]; exact h.2.2.2 j hj⟩
theorem w_e68_23 (hn : n ≤ 500) (hB : ∀ j, j < n → w_k_wi (T j) 0 255) {p : Nat} {t : g_S} (hp : p ≤ n) (ht : w_k_RT t T n l) (h6 : t 11 6 = nI p) : ∃ u, f68_23 t = some u ∧ w_k_RS u T n l p ∧ ∀ x b, ¬ (x = 11 ∧ (b = 5 ∨ b = 7 ∨ b = 8)) → u x b = t x b := by
  unfold f68_23
  rw [w_k_let, h6, w_k_wq (by omega), w_k_wq (by omega), h6, ht.2.1]
  have ht7 := w_k_RT_w (v := nI p) ht (b := 7) (by omega)
  by_cases h : p < n
  · rw [if_pos ((w_k_lt (by omega) (by omega)).2 h), if_pos (w_k_rd ht7.1 (by omega)), if_pos (w_k_rd ht7.1 (by omega)), if_pos (w_k_rd ht7.1 (by omega)), w_e69, w_k_bs, w_e70, w_k_bs, ht7.1, show (1 : Int32).toNatClampNeg = 1 from rfl, w_k_nat (by omega), ht7.2.2.2 p h]
    cases hl : w_t_let (T p) with
    | true =>
      have hkd : w_t_kd T n p = 256 := by unfold w_t_kd; rw [if_pos h, if_pos hl]
      rw [if_neg (by decide), w_k_let]
      obtain ⟨u, q1, q2, q3⟩ := w_e68_46 hn n p (g_w (g_w t 11 7 (nI p)) 11 5 256) (by omega) hp (w_k_RT_w ht7 (by omega)) (by rw [w_k_wq (by omega), w_k_wv])
      refine ⟨u, q1, ⟨w_k_RT_f (w_k_RT_w (v := 256) ht7 (b := 5) (by omega)) (fun x b hx => q3 x b (by omega)), ?_, ?_, ?_, fun e => ?_, hp⟩, fun x b hx => ?_⟩
      · rw [q3 11 6 (by omega), w_k_wq (by omega), w_k_wq (by omega), h6]
      · rw [q2]; unfold w_t_te; rw [if_pos h, if_pos hl]
      · rw [q3 11 5 (by omega), w_k_wv, hkd]
      · rw [hkd] at e; exact absurd e (by decide)
      · rw [q3 x b (by omega), w_k_wq (by omega), w_k_wq (by omega)]
    | false =>
      rw [if_pos (show w_q_b false = 0 from rfl)]
      cases hd : w_t_dig (T p) with
      | true =>
        have hkd : w_t_kd T n p = 257 := by unfold w_t_kd; rw [if_pos h, hl, if_neg (by decide), if_pos hd]
        rw [if_neg (by decide), w_k_let, w_k_let]
        obtain ⟨u, q1, q2, q2', q3⟩ := w_e68_78 hn n p 0 (g_w (g_w (g_w t 11 7 (nI p)) 11 5 257) 11 8 0) (by omega) hp (w_k_RT_w (w_k_RT_w ht7 (by omega)) (by omega)) (by rw [w_k_wq (by omega), w_k_wq (by omega), w_k_wv]) w_k_wv
        refine ⟨u, q1, ⟨w_k_RT_f (w_k_RT_w (v := 0) (w_k_RT_w (v := 257) ht7 (b := 5) (by omega)) (b := 8) (by omega)) (fun x b hx => q3 x b (by omega)), ?_, ?_, ?_, fun e => q2', hp⟩, fun x b hx => ?_⟩
        · rw [q3 11 6 (by omega), w_k_wq (by omega), w_k_wq (by omega), w_k_wq (by omega), h6]
        · rw [q2]; unfold w_t_te; rw [if_pos h, hl, if_neg (by decide), if_pos hd]
        · rw [q3 11 5 (by omega), w_k_wq (by omega), w_k_wv, hkd]
        · rw [q3 x b (by omega), w_k_wq (by omega), w_k_wq (by omega), w_k_wq (by omega)]
      | false =>
        have hkd : w_t_kd T n p = T p := by unfold w_t_kd; rw [if_pos h, hl, if_neg (by decide), hd, if_neg (by decide)]
        have ef : w_k_RT (g_w (g_w (g_w t 11 7 (nI p)) 11 5 (T p)) 11 7 (nI (p + 1))) T n l := w_k_RT_w (w_k_RT_w ht7 (by omega)) (by omega)
        rw [if_pos (show w_q_b false = 0 from rfl), w_k_let, w_k_wq (by omega), w_k_wv, w_k_let, w_k_s1]
        refine ⟨_, rfl, ⟨ef, ?_, ?_, ?_, fun e => ?_, hp⟩, fun x b hx => ?_⟩
        · rw [w_k_wq (by omega), w_k_wq (by omega), w_k_wq (by omega), h6]
        · rw [w_k_wv]; unfold w_t_te; rw [if_pos h, hl, if_neg (by decide), hd, if_neg (by decide)]
        · rw [w_k_wq (by omega), w_k_wv, hkd]
        · rw [hkd] at e
          have hb := (hB p h).2
          rw [e] at hb
          exact absurd (show (255 : Int32) < 257 by decide) hb
        · rw [w_k_wq (by omega), w_k_wq (by omega), w_k_wq (by omega)]
  · have hkd : w_t_kd T n p = 258 := by unfold w_t_kd; rw [if_neg h]
    rw [if_neg (w_k_nlt (by omega) (by omega) h), w_k_let]
    refine ⟨_, rfl, ⟨w_k_RT_w ht7 (by omega), ?_, ?_, ?_, fun e => ?_, hp⟩, fun x b hx => ?_⟩
    · rw [w_k_wq (by omega), w_k_wq (by omega), h6]
    · rw [w_k_wq (by omega), w_k_wv]; unfold w_t_te; rw [if_neg h]
    · rw [w_k_wv, hkd]
    · rw [hkd] at e; exact absurd e (by decide)
    · rw [w_k_wq (by omega), w_k_wq (by omega)]
theorem w_e68_4 (hn : n ≤ 500) (hB : ∀ j, j < n → w_k_wi (T j) 0 255) : ∀ k p (t : g_S), n < p + k + 1 → p ≤ n → w_k_RT t T n l → t 11 6 = nI p → ∃ u, f68_4L t = some u ∧ w_k_RS u T n l (w_t_run w_t_bl T n k p) ∧ ∀ x b, ¬ (x = 11 ∧ (b = 5 ∨ b = 6 ∨ b = 7 ∨ b = 8)) → u x b = t x b
  | 0, p, t, hk, hp, ht, h6 => by
    rw [f68_4L_eq]; unfold f68_4
    rw [h6, ht.2.1, if_neg (w_k_nlt (by omega) (by omega) (by omega))]
    obtain ⟨u, q1, q2, q3⟩ := w_e68_23 hn hB hp ht h6
    rw [q1]
    exact ⟨u, rfl, q2, fun x b hx => q3 x b (by omega)⟩
  | k + 1, p, t, hk, hp, ht, h6 => by
    have out : ¬ (p < n ∧ w_t_bl (T p) = true) → ∃ u, g_st (Option.map (fun w => (Sum.inr w : g_S ⊕ g_S)) (f68_23 t)) (fun S => f68_4L S) = some u ∧ w_k_RS u T n l p ∧ ∀ x b, ¬ (x = 11 ∧ (b = 5 ∨ b = 6 ∨ b = 7 ∨ b = 8)) → u x b = t x b := by
      intro _
      obtain ⟨u, q1, q2, q3⟩ := w_e68_23 hn hB hp ht h6
      rw [q1]
      exact ⟨u, rfl, q2, fun x b hx => q3 x b (by omega)⟩
    rw [f68_4L_eq]; unfold f68_4 w_t_run
    rw [h6, ht.2.1]
    by_cases h : p < n
    · rw [if_pos ((w_k_lt (by omega) (by omega)).2 h), if_pos (w_k_rd ht.1 (by omega)), ht.1, show (1 : Int32).toNatClampNeg = 1 from rfl, w_k_nat (by omega), ht.2.2.2 p h]
      by_cases hb : T p = 32
      · have hf : w_t_bl (T p) = true := decide_eq_true hb
        rw [if_pos hb, if_pos ⟨h, hf⟩, w_k_let, w_k_s1]
        obtain ⟨u, q1, q2, q3⟩ := w_e68_4 hn hB k (p + 1) (g_w t 11 6 (nI (p + 1))) (by omega) (by omega) (w_k_RT_w ht (by omega)) w_k_wv
        exact ⟨u, q1, q2, fun x b hx => by rw [q3 x b hx, w_k_wq (by omega)]⟩
      · have hf : ¬ (p < n ∧ w_t_bl (T p) = true) := fun g => hb (of_decide_eq_true g.2)
        rw [if_neg hb, if_neg hf]
        exact out hf
    · have hf : ¬ (p < n ∧ w_t_bl (T p) = true) := fun g => h g.1
      rw [if_neg (w_k_nlt (by omega) (by omega) h), if_neg hf]
      exact out hf
theorem w_e68 (hn : n ≤ 500) (hB : ∀ j, j < n → w_k_wi (T j) 0 255) {e : Nat} {t : g_S} (he : e ≤ n) (ht : w_k_RT t T n l) (h7 : t 11 7 = nI e) : ∃ u, f68 t = some u ∧ w_k_RS u T n l (w_t_sk T n e) ∧ ∀ x b, ¬ (x = 11 ∧ (b = 5 ∨ b = 6 ∨ b = 7 ∨ b = 8)) → u x b = t x b := by
  unfold f68
  rw [w_k_let, h7]
  obtain ⟨u, q1, q2, q3⟩ := w_e68_4 hn hB n e (g_w t 11 6 (nI e)) (by omega) he (w_k_RT_w ht (by omega)) w_k_wv
  exact ⟨u, q1, q2, fun x b hx => by rw [q3 x b hx, w_k_wq (by omega)]⟩
theorem w_e68n (hn : n ≤ 500) (hB : ∀ j, j < n → w_k_wi (T j) 0 255) {p : Nat} {t : g_S} (ht : w_k_RS t T n l p) : ∃ u, f68 t = some u ∧ w_k_RS u T n l (w_t_nx T n p) ∧ ∀ x b, ¬ (x = 11 ∧ (b = 5 ∨ b = 6 ∨ b = 7 ∨ b = 8)) → u x b = t x b :=
  w_e68 hn hB (w_t_te_le ht.2.2.2.2.2).2 ht.1 ht.2.2.1
end TK
/-! words -/
def w_t_same (T : Nat → Int32) (n p : Nat) (str : List Nat) (a b : Nat) : Bool :=
  decide (b - a = w_t_te T n p - p) && (List.range (b - a)).all fun i => decide (nI (str.getD (a + i) 0) = T (p + i))
def w_t_wl (str : List Nat) (same : Nat → Nat → Bool) : Nat → Nat → Nat → Nat → Int32
  | 0, _, _, _ => -1
  | f + 1, w, b, i => if str.length < i then -1 else if i = str.length ∨ str.getD i 0 = 32 then (if same b i = true then nI w else w_t_wl str same f (w + 1) (i + 1) (i + 1)) else w_t_wl str same f w b (i + 1)
def w_t_wof (T : Nat → Int32) (n p k : Nat) : Int32 := if w_t_kd T n p = 256 then w_t_wl (m_text.getD k []) (w_t_same T n p (m_text.getD k [])) 60 0 0 0 else -1
theorem w_k_sub {a b : Nat} (h : a ≤ b) : nI b - nI a = nI (b - a) := by
  have : nI b = nI (b - a) + nI a := by rw [w_k_add]; congr 1; omega
  rw [this]; grind
section WD
variable {s : g_S} {T : Nat → Int32} {n l p : Nat}
theorem w_e73_13 (hn : n ≤ 500) (hs : w_k_RS s T n l p) {k a b : Nat} (hb : b ≤ (m_text.getD k []).length) (hab : b - a = w_t_te T n p - p) (hl : (m_text.getD k []).length ≤ 60) : ∀ d i, i + d = b → a ≤ i → 
    (f73_13L s k (nI a) (nI b) (nI i) = some 1 ∧ ∀ j, i ≤ j → j < b → nI ((m_text.getD k []).getD j 0) = T (p + (j - a))) ∨ (f73_13L s k (nI a) (nI b) (nI i) = some 0 ∧ ∃ j, i ≤ j ∧ j < b ∧ nI ((m_text.getD k []).getD j 0) ≠ T (p + (j - a)))
  | 0, i, e, hi => by
    have e' : i = b := by omega
    subst e'
    rw [f73_13L_eq]; unfold f73_13
    rw [if_neg (w_k_nlt (by omega) (by omega) (by omega))]
    exact Or.inl ⟨rfl, fun j h1 h2 => absurd h1 (by omega)⟩
  | d + 1, i, e, hi => by
    have hte := w_t_te_le (T := T) hs.2.2.2.2.2
    have ex : s 11 6 + nI i - nI a = nI (p + (i - a)) := by rw [hs.2.1, w_k_add, w_k_sub (by omega)]; congr 1; omega
    rw [f73_13L_eq]; unfold f73_13
    rw [if_pos ((w_k_lt (by omega) (by omega)).2 (by omega)), if_pos ((w_k_inI (by omega)).2 (by omega)), ex, if_pos (w_k_rd hs.1.1 (by omega)), hs.1.1, show (1 : Int32).toNatClampNeg = 1 from rfl, w_k_nat (by omega), w_k_nat (by omega), hs.1.2.2.2 _ (by omega), w_k_s1]
    by_cases hc : nI ((m_text.getD k []).getD i 0) = T (p + (i - a))
    · rw [if_pos hc]
      rcases w_e73_13 hn hs hb hab hl d (i + 1) (by omega) (by omega) with ⟨h1, h2⟩ | ⟨h1, j, h2, h3, h4⟩
      · refine Or.inl ⟨h1, fun j g1 g2 => ?_⟩
        by_cases e : j = i
        · subst e; exact hc
        · exact h2 j (by omega) g2
      · exact Or.inr ⟨h1, j, by omega, h3, h4⟩
    · rw [if_neg hc]
      exact Or.inr ⟨rfl, i, Nat.le_refl _, by omega, hc⟩
theorem w_e73 (hn : n ≤ 500) (hs : w_k_RS s T n l p) {k a b : Nat} (hab : a ≤ b) (hb : b ≤ (m_text.getD k []).length) (hl : (m_text.getD k []).length ≤ 60) : f73 s k (nI a) (nI b) = some (w_q_b (w_t_same T n p (m_text.getD k []) a b)) := by
  have hte := w_t_te_le (T := T) hs.2.2.2.2.2
  unfold f73 w_t_same
  rw [hs.2.1, hs.2.2.1, w_k_sub hab, w_k_sub hte.1]
  by_cases h : b - a = w_t_te T n p - p
  · rw [if_pos (congrArg nI h), decide_eq_true h, Bool.true_and]
    rcases w_e73_13 hn hs hb h hl (b - a) a (by omega) (Nat.le_refl _) with ⟨h1, h2⟩ | ⟨h1, j, h2, h3, h4⟩
    · rw [h1]
      have : ((List.range (b - a)).all fun i => decide (nI ((m_text.getD k []).getD (a + i) 0) = T (p + i))) = true := by
        rw [List.all_eq_true]
        intro i hi
        have hi := List.mem_range.1 hi
        have := h2 (a + i) (by omega) (by omega)
        rw [show a + i - a = i by omega] at this
        exact decide_eq_true this
      rw [this]; rfl
    · rw [h1]
      have : ((List.range (b - a)).all fun i => decide (nI ((m_text.getD k []).getD (a + i) 0) = T (p + i))) = false := by
        rw [List.all_eq_false]
        refine ⟨j - a, List.mem_range.2 (by omega), ?_⟩
        rw [show a + (j - a) = j by omega]
        simp only [decide_eq_true_eq]
        exact h4
      rw [this]; rfl
  · rw [if_neg (fun e => h ((w_k_eq (by omega) (by omega)).1 e)), decide_eq_false h]; rfl
theorem w_e72_12 (hn : n ≤ 500) (hs : w_k_RS s T n l p) {k : Nat} (hl : (m_text.getD k []).length ≤ 60) (hc : ∀ i, i < (m_text.getD k []).length → (m_text.getD k []).getD i 0 < 200) : ∀ f w b i, (m_text.getD k []).length < i + f → b ≤ i → w ≤ i → i ≤ 100 → f72_12L s k (nI w) (nI b) (nI i) = some (w_t_wl (m_text.getD k []) (w_t_same T n p (m_text.getD k [])) f w b i)
  | 0, w, b, i, hf, hb, hw, hi => by
    rw [f72_12L_eq]; unfold f72_12
    rw [if_pos ((w_k_lt (by omega) (by omega)).2 (by omega))]; rfl
  | f + 1, w, b, i, hf, hb, hw, hi => by
    rw [f72_12L_eq]; unfold f72_12 w_t_wl
    by_cases h1 : (m_text.getD k []).length < i
    · rw [if_pos ((w_k_lt (by omega) (by omega)).2 h1), if_pos h1]; rfl
    · rw [if_neg (w_k_nlt (by omega) (by omega) h1), if_neg h1]
      have h25 : g_st (f72_25 s k (nI w) (nI b) (nI i)) (fun S => f72_12L s k S.1 S.2.1 S.2.2) = some (if w_t_same T n p (m_text.getD k []) b i = true then nI w else w_t_wl (m_text.getD k []) (w_t_same T n p (m_text.getD k [])) f (w + 1) (i + 1) (i + 1)) := by
        unfold f72_25
        rw [w_e73 hn hs hb (by omega) hl, w_k_bs, w_k_s1, w_k_s1]
        cases w_t_same T n p (m_text.getD k []) b i with
        | true => rw [if_neg (by decide), if_pos rfl]; rfl
        | false =>
          rw [if_pos (show w_q_b false = 0 from rfl), if_neg (by decide)]
          by_cases h100 : i + 1 ≤ 100
          · exact w_e72_12 hn hs hl hc f (w + 1) (i + 1) (i + 1) (by omega) (Nat.le_refl _) (by omega) h100
          · omega
      by_cases h2 : i = (m_text.getD k []).length
      · rw [if_pos (congrArg nI h2), if_pos (Or.inl h2)]; exact h25
      · rw [if_neg (fun e => h2 ((w_k_eq (by omega) (by omega)).1 e)), if_pos ((w_k_inI (by omega)).2 (by omega)), w_k_nat (by omega)]
        have hch := hc i (by omega)
        by_cases h3 : (m_text.getD k []).getD i 0 = 32
        · rw [if_pos (by rw [h3]; rfl), if_pos (Or.inr h3)]; exact h25
        · rw [if_neg (show ¬ nI ((m_text.getD k []).getD i 0) = 32 from fun e => h3 ((w_k_eq (b := 32) (by omega) (by omega)).1 e)), if_neg (fun e => e.elim h2 h3), w_k_s1]
          by_cases h100 : i + 1 ≤ 100
          · exact w_e72_12 hn hs hl hc f w b (i + 1) (by omega) (by omega) (by omega) h100
          · omega
theorem w_t_txt : ∀ k, k < 11 → (m_text.getD k []).length < 60 ∧ ∀ i, i < (m_text.getD k []).length → (m_text.getD k []).getD i 0 < 200 := by decide +kernel
theorem w_e72 (hn : n ≤ 500) (hs : w_k_RS s T n l p) {k : Nat} (hk : k < 11) : f72 s k = some (w_t_wof T n p k) := by
  obtain ⟨h1, h2⟩ := w_t_txt k hk
  unfold f72 w_t_wof
  rw [hs.2.2.2.1]
  by_cases h : w_t_kd T n p = 256
  · rw [if_pos h, if_pos h]
    exact w_e72_12 hn hs (by omega) h2 60 0 0 0 (by omega) (Nat.le_refl _) (Nat.le_refl _) (by omega)
  · rw [if_neg h, if_neg h]
theorem w_e71 (hn : n ≤ 500) (hs : w_k_RS s T n l p) {k : Nat} (hk : k < 11) : f71 s k = some (if w_t_wof T n p k = 0 then 1 else 0) := by
  unfold f71
  rw [w_e72 hn hs hk, w_k_bs]
  split <;> rfl
end WD
