/-! the model walks: bytes, blanks, words -/
def w_t_B (T : Nat → Int32) (n k : Nat) : Int32 := if k < n then T k else -1
def w_w_W (s : g_S) (T : Nat → Int32) (n : Nat) : Prop := n ≤ 500 ∧ (∀ j, j < n → w_k_wi (T j) 0 255) ∧ s 199 2 = nI n ∧ ((s 199 8 = -1 ∧ ∀ j, j < n → s 200 j = T j) ∨ ∃ i, i < 4 ∧ s 199 8 = nI i ∧ ∀ j, j < n → s (202 + i) j = T j)
def w_w_4 (s u : g_S) : Prop := ∀ x b, ¬ (x = 199 ∧ 4 ≤ b ∧ b ≤ 7) → u x b = s x b
def w_w_a (s u : g_S) : Prop := ∀ x b, ¬ (x = 199 ∧ b = 4) → u x b = s x b
theorem w_w_a4 {s u : g_S} (h : w_w_a s u) : w_w_4 s u := fun x b hx => h x b (by omega)
theorem w_w_4r {s : g_S} : w_w_4 s s := fun _ _ _ => rfl
theorem w_w_ar {s : g_S} : w_w_a s s := fun _ _ _ => rfl
theorem w_w_4t {s t u : g_S} (h : w_w_4 s t) (g : w_w_4 t u) : w_w_4 s u := fun x b hx => (g x b hx).trans (h x b hx)
theorem w_w_at {s t u : g_S} (h : w_w_a s t) (g : w_w_a t u) : w_w_a s u := fun x b hx => (g x b hx).trans (h x b hx)
theorem w_w_W4 {s u : g_S} {T : Nat → Int32} {n : Nat} (H : w_w_W s T n) (h : ∀ x b, ¬ (x = 199 ∧ b ≠ 2 ∧ b ≠ 8) → u x b = s x b) : w_w_W u T n := by
  obtain ⟨h0, hB, h1, h2⟩ := H
  refine ⟨h0, hB, by rw [h 199 2 (by omega)]; exact h1, ?_⟩
  rw [h 199 8 (by omega)]
  rcases h2 with ⟨h2, h3⟩ | ⟨i, h2, h3, h4⟩
  · exact Or.inl ⟨h2, fun j hj => by rw [h 200 j (by omega)]; exact h3 j hj⟩
  · exact Or.inr ⟨i, h2, h3, fun j hj => by rw [h (202 + i) j (by omega)]; exact h4 j hj⟩
theorem w_w_Wa {s u : g_S} {T : Nat → Int32} {n : Nat} (H : w_w_W s T n) (h : w_w_4 s u) : w_w_W u T n := w_w_W4 H (fun x b hx => h x b (by omega))
section MW
variable {s : g_S} {T : Nat → Int32} {n : Nat}
theorem w_e138 (H : w_w_W s T n) {k : Nat} (hk : k < 2147483648) : f138 s (nI k) = some (w_t_B T n k) := by
  obtain ⟨h0, hB, h1, h2⟩ := H
  unfold f138 w_t_B
  rw [h1]
  by_cases h : k < n
  · rw [if_pos ((w_k_lt hk (by omega)).2 h), if_pos h]
    rcases h2 with ⟨h2, h3⟩ | ⟨i, h2, h3, h4⟩
    · rw [if_pos h2, if_pos ((w_k_inI hk).2 (by omega)), w_k_nat hk, h3 k h]
    · rw [h3, if_neg (w_k_ne1 (by omega)), if_pos ((w_k_inI (by omega)).2 h2), if_pos ((w_k_inI hk).2 (by omega)), w_k_nat (by omega), w_k_nat hk, h4 k h]
  · rw [if_neg (w_k_nlt hk (by omega) h), if_neg h]
theorem w_t_B_eq {k : Nat} {c : Int32} (hc : c ≠ -1) : w_t_B T n k = c ↔ k < n ∧ T k = c := by
  unfold w_t_B; split
  · rename_i h; exact ⟨fun e => ⟨h, e⟩, fun e => e.2⟩
  · rename_i h; exact ⟨fun e => absurd e.symm hc, fun e => absurd e.1 h⟩
theorem w_e139_0 (H : w_w_W s T n) : ∀ k a (t : g_S), n < a + k + 1 → a < 1000000 → w_w_a s t → t 199 4 = nI a → ∃ u, f139_0L t = some u ∧ u 199 4 = nI (w_t_run w_t_bl T n k a) ∧ w_w_a s u
  | 0, a, t, hk, ha, ht, h4 => by
    have HW := w_w_Wa H (w_w_a4 ht)
    rw [f139_0L_eq]; unfold f139_0
    rw [h4, w_e138 HW (by omega), w_k_bs, if_neg (fun e => by have := (w_t_B_eq (T := T) (n := n) (by decide)).1 e; omega)]
    exact ⟨t, rfl, h4, ht⟩
  | k + 1, a, t, hk, ha, ht, h4 => by
    have HW := w_w_Wa H (w_w_a4 ht)
    have hn := H.1
    rw [f139_0L_eq]; unfold f139_0 w_t_run
    rw [h4, w_e138 HW (by omega), w_k_bs]
    by_cases h : w_t_B T n a = 32
    · obtain ⟨g1, g2⟩ := (w_t_B_eq (T := T) (n := n) (by decide)).1 h
      rw [if_pos h, if_pos ⟨g1, decide_eq_true g2⟩, w_k_let, w_k_s1]
      exact w_e139_0 H k (a + 1) _ (by omega) (by omega) (fun x b hx => by rw [w_k_wq hx]; exact ht x b hx) w_k_wv
    · rw [if_neg h, if_neg (fun g => h ((w_t_B_eq (by decide)).2 ⟨g.1, of_decide_eq_true g.2⟩))]
      exact ⟨t, rfl, h4, ht⟩
theorem w_e139 (H : w_w_W s T n) {a : Nat} (ha : a < 1000000) (h4 : s 199 4 = nI a) : ∃ u, f139 s = some u ∧ u 199 4 = nI (w_t_sk T n a) ∧ w_w_a s u := by
  unfold f139; exact w_e139_0 H n a s (by omega) ha w_w_ar h4
theorem w_e147_0 (H : w_w_W s T n) : ∀ k a (t : g_S), n < a + k + 1 → a < 1000000 → w_w_a s t → t 199 4 = nI a → ∃ u, f147_0L t = some u ∧ u 199 4 = nI (w_t_run w_t_let T n k a) ∧ w_w_a s u
  | 0, a, t, hk, ha, ht, h4 => by
    have HW := w_w_Wa H (w_w_a4 ht)
    rw [f147_0L_eq]; unfold f147_0
    have hb : w_t_B T n a = -1 := by unfold w_t_B; rw [if_neg (by omega)]
    rw [h4, w_e138 HW (by omega), w_k_bs, hb, if_pos (by decide)]
    exact ⟨t, rfl, h4, ht⟩
  | k + 1, a, t, hk, ha, ht, h4 => by
    have HW := w_w_Wa H (w_w_a4 ht)
    have hn := H.1
    rw [f147_0L_eq]; unfold f147_0 w_t_run
    rw [h4, w_e138 HW (by omega), w_k_bs, w_k_bs]
    by_cases han : a < n
    · have hb : w_t_B T n a = T a := if_pos han
      rw [hb]
      by_cases h1 : T a < 97
      · rw [if_pos h1, if_neg (fun g => (of_decide_eq_true g.2).1 h1)]
        exact ⟨t, rfl, h4, ht⟩
      · rw [if_neg h1]
        by_cases h2 : 122 < T a
        · rw [if_pos h2, if_neg (fun g => (of_decide_eq_true g.2).2 h2)]
          exact ⟨t, rfl, h4, ht⟩
        · rw [if_neg h2, if_pos ⟨han, decide_eq_true ⟨h1, h2⟩⟩, w_k_let, w_k_s1]
          exact w_e147_0 H k (a + 1) _ (by omega) (by omega) (fun x b hx => by rw [w_k_wq hx]; exact ht x b hx) w_k_wv
    · have hb : w_t_B T n a = -1 := if_neg han
      rw [hb, if_pos (by decide), if_neg (fun g => han g.1)]
      exact ⟨t, rfl, h4, ht⟩
theorem w_e147 (H : w_w_W s T n) {a : Nat} (ha : a < 1000000) (h4 : s 199 4 = nI a) : ∃ u, f147 s = some u ∧ u 199 4 = nI (w_t_run w_t_let T n n a) ∧ w_w_a s u := by
  unfold f147; exact w_e147_0 H n a s (by omega) ha w_w_ar h4
theorem w_t_run_all {f : Int32 → Bool} : ∀ k p i, p ≤ i → i < w_t_run f T n k p → i < n ∧ f (T i) = true
  | 0, p, i, h1, h2 => by unfold w_t_run at h2; omega
  | k + 1, p, i, h1, h2 => by
    unfold w_t_run at h2
    split at h2
    · rename_i h
      by_cases e : i = p
      · subst e; exact h
      · exact w_t_run_all k (p + 1) i (by omega) h2
    · omega
def w_t_r (T : Nat → Int32) (n p : Nat) : Nat := w_t_run w_t_let T n n p - p
def w_t_cd (xs : List Nat) : Nat := xs.foldl (fun v x => 27 * v + x) 0
def w_t_ls (T : Nat → Int32) (p m : Nat) : List Nat := (List.range m).map fun i => (T (p + i)).toNatClampNeg - 96
theorem w_t_ls_s (p m : Nat) : w_t_ls T p (m + 1) = w_t_ls T p m ++ [(T (p + m)).toNatClampNeg - 96] := by
  unfold w_t_ls; rw [List.range_succ, List.map_append]; rfl
theorem w_t_cd_s (xs : List Nat) (x : Nat) : w_t_cd (xs ++ [x]) = 27 * w_t_cd xs + x := by
  unfold w_t_cd; rw [List.foldl_append]; rfl
theorem w_t_let_n {x : Int32} (h : w_t_let x = true) : ∃ k, 1 ≤ k ∧ k ≤ 26 ∧ x = nI (k + 96) := by
  have h := of_decide_eq_true h
  obtain ⟨k, h1, h2, h3⟩ := w_k_iI (a := 97) (b := 122) (by omega) (show w_k_wi x (nI 97) (nI 122) from h) (by omega)
  exact ⟨k - 96, by omega, by omega, by rw [h3]; congr 1; omega⟩
theorem w_t_r_let {p : Nat} (hp : p ≤ n) {i : Nat} (hi : i < w_t_r T n p) : p + i < n ∧ ∃ k, 1 ≤ k ∧ k ≤ 26 ∧ T (p + i) = nI (k + 96) := by
  have h1 := w_t_run_all (T := T) (n := n) (f := w_t_let) n p (p + i) (by omega) (by unfold w_t_r at hi; omega)
  exact ⟨h1.1, w_t_let_n h1.2⟩
theorem w_t_r_end {p : Nat} (hp : p ≤ n) : ¬ (p + w_t_r T n p < n ∧ w_t_let (T (p + w_t_r T n p)) = true) := by
  have h1 := w_t_run_end (T := T) (n := n) (f := w_t_let) n p (by omega)
  have h2 := (w_t_run_le (T := T) (n := n) (f := w_t_let) n p hp).1
  have e : p + w_t_r T n p = w_t_run w_t_let T n n p := by unfold w_t_r; omega
  rw [e]; exact h1
theorem w_t_cd_lt {p : Nat} (hp : p ≤ n) : ∀ m, m ≤ w_t_r T n p → w_t_cd (w_t_ls T p m) < 27 ^ m
  | 0, _ => by show (0 : Nat) < 1; decide
  | m + 1, hm => by
    obtain ⟨_, k, h1, h2, h3⟩ := w_t_r_let (T := T) hp (i := m) (by omega)
    have ih := w_t_cd_lt hp m (by omega)
    rw [w_t_ls_s, w_t_cd_s, h3, w_k_nat (by omega), Nat.pow_succ]
    omega
theorem w_e143_6 (H : w_w_W s T n) {p : Nat} (hp : p ≤ n) (h4 : s 199 4 = nI p) : ∀ d m, m + d = w_t_r T n p → f143_6L s (nI (w_t_cd (w_t_ls T p (if m ≤ 6 then m else 6)))) (nI m) = f143_44 s (nI (w_t_cd (w_t_ls T p (if w_t_r T n p ≤ 6 then w_t_r T n p else 6)))) (nI (w_t_r T n p))
  | 0, m, e => by
    have hn := H.1
    have hr : w_t_r T n p ≤ n := by have := (w_t_run_le (T := T) (n := n) (f := w_t_let) n p hp); unfold w_t_r; omega
    have e' : m = w_t_r T n p := by omega
    subst e'
    have hend := w_t_r_end (T := T) hp
    generalize hz : f143_44 s (nI (w_t_cd (w_t_ls T p (if w_t_r T n p ≤ 6 then w_t_r T n p else 6)))) (nI (w_t_r T n p)) = z
    have hmap : ∀ (z : Option (Int32 × g_S)), g_st (Option.map (fun w => (Sum.inr w : (Int32 × Int32) ⊕ (Int32 × g_S))) z) (fun S => f143_6L s S.1 S.2) = z := fun z => by cases z <;> rfl
    rw [f143_6L_eq]; unfold f143_6
    rw [h4, w_k_add, w_e138 H (by omega), w_k_bs, w_k_bs, hz]
    unfold w_t_B
    by_cases h : p + w_t_r T n p < n
    · rw [if_pos h]
      by_cases h1 : T (p + w_t_r T n p) < 97
      · rw [if_pos h1]; exact hmap z
      · rw [if_neg h1]
        by_cases h2 : 122 < T (p + w_t_r T n p)
        · rw [if_pos h2]; exact hmap z
        · exact absurd ⟨h, decide_eq_true ⟨h1, h2⟩⟩ hend
    · rw [if_neg h, if_pos (by decide)]; exact hmap z
  | d + 1, m, e => by
    have hn := H.1
    obtain ⟨hlt, k, h1, h2, h3⟩ := w_t_r_let (T := T) hp (i := m) (by omega)
    have hb : w_t_B T n (p + m) = nI (k + 96) := by unfold w_t_B; rw [if_pos hlt, h3]
    have ih := w_e143_6 H hp h4 d (m + 1) (by omega)
    rw [f143_6L_eq]; unfold f143_6
    rw [h4, w_k_add, w_e138 H (by omega), w_k_bs, w_k_bs, w_k_bs, hb, if_neg (show ¬ nI (k + 96) < 97 from w_k_nlt (b := 97) (by omega) (by omega) (by omega)), if_neg (show ¬ (122 : Int32) < nI (k + 96) from w_k_nlt (a := 122) (by omega) (by omega) (by omega)), w_k_s1]
    by_cases h6 : m < 6
    · rw [if_pos (show nI m < 6 from (w_k_lt (b := 6) (by omega) (by omega)).2 h6)]
      have hc := w_t_cd_lt (T := T) hp m (by omega)
      rw [if_pos (show m + 1 ≤ 6 by omega), w_t_ls_s, w_t_cd_s, h3, w_k_nat (by omega)] at ih
      rw [if_pos (show m ≤ 6 by omega)]
      have ec : 27 * nI (w_t_cd (w_t_ls T p m)) + nI (k + 96) - 97 + 1 = nI (27 * w_t_cd (w_t_ls T p m) + (k + 96 - 96)) := by
        rw [show k + 96 - 96 = k by omega]
        generalize w_t_cd (w_t_ls T p m) = v
        have g1 : nI (27 * v + k) = nI 27 * nI v + nI k := by rw [w_k_mul, w_k_add]
        have g2 : nI (k + 96) = nI k + nI 96 := by rw [w_k_add]
        rw [g1, g2]
        show nI 27 * nI v + (nI k + 96) - 97 + 1 = _
        grind
      unfold g_st
      dsimp only
      rw [ec]
      exact ih
    · rw [if_neg (show ¬ nI m < 6 from w_k_nlt (b := 6) (by omega) (by omega) h6)]
      rw [if_neg (show ¬ m + 1 ≤ 6 by omega)] at ih
      have e6 : (if m ≤ 6 then m else 6) = 6 := by split <;> omega
      rw [e6]
      exact ih
def w_t_ans (T : Nat → Int32) (p : Nat) : Bool := decide (T p = 97 ∧ T (p + 1) = 110 ∧ T (p + 2) = 115 ∧ T (p + 3) = 119 ∧ T (p + 4) = 101 ∧ T (p + 5) = 114 ∧ T (p + 6) = 115)
theorem w_e144 (H : w_w_W s T n) {p : Nat} (hp : p + 7 ≤ n) (h4 : s 199 4 = nI p) : f144 s = some (w_q_b (w_t_ans T p)) := by
  have hn := H.1
  unfold f144 w_t_ans
  have e : ∀ i, i < 7 → f138 s (nI (p + i)) = some (T (p + i)) := fun i hi => by rw [w_e138 H (by omega)]; unfold w_t_B; rw [if_pos (by omega)]
  have a1 : nI p + 1 = nI (p + 1) := w_k_add p 1
  have a2 : nI p + 2 = nI (p + 2) := w_k_add p 2
  have a3 : nI p + 3 = nI (p + 3) := w_k_add p 3
  have a4 : nI p + 4 = nI (p + 4) := w_k_add p 4
  have a5 : nI p + 5 = nI (p + 5) := w_k_add p 5
  have a6 : nI p + 6 = nI (p + 6) := w_k_add p 6
  rw [h4, a1, a2, a3, a4, a5, a6, e 1 (by omega), e 2 (by omega), e 3 (by omega), e 4 (by omega), e 5 (by omega), e 6 (by omega), show f138 s (nI p) = some (T p) from e 0 (by omega)]
  simp only [w_k_bs]
  by_cases h0 : T p = 97
  · rw [if_pos h0]
    by_cases h1 : T (p + 1) = 110
    · rw [if_pos h1]
      by_cases h2 : T (p + 2) = 115
      · rw [if_pos h2]
        by_cases h3 : T (p + 3) = 119
        · rw [if_pos h3]
          by_cases h4 : T (p + 4) = 101
          · rw [if_pos h4]
            by_cases h5 : T (p + 5) = 114
            · rw [if_pos h5]
              by_cases h6 : T (p + 6) = 115
              · rw [if_pos h6, decide_eq_true ⟨h0, h1, h2, h3, h4, h5, h6⟩]; rfl
              · rw [if_neg h6, decide_eq_false (fun g => h6 g.2.2.2.2.2.2)]; rfl
            · rw [if_neg h5, decide_eq_false (fun g => h5 g.2.2.2.2.2.1)]; rfl
          · rw [if_neg h4, decide_eq_false (fun g => h4 g.2.2.2.2.1)]; rfl
        · rw [if_neg h3, decide_eq_false (fun g => h3 g.2.2.2.1)]; rfl
      · rw [if_neg h2, decide_eq_false (fun g => h2 g.2.2.1)]; rfl
    · rw [if_neg h1, decide_eq_false (fun g => h1 g.2.1)]; rfl
  · rw [if_neg h0, decide_eq_false (fun g => h0 g.1)]; rfl
def w_t_wh (T : Nat → Int32) (n p : Nat) : Int32 := if w_t_r T n p < 7 then nI (w_t_cd (w_t_ls T p (w_t_r T n p))) else if w_t_r T n p = 7 ∧ w_t_ans T p = true then -2 else -1
theorem w_e143w (H : w_w_W s T n) {a : Nat} (ha : a < 1000000) (hp : w_t_sk T n a ≤ n) (h4 : s 199 4 = nI a) : ∃ u, f143 s = some (w_t_wh T n (w_t_sk T n a), u) ∧ u 199 4 = nI (w_t_sk T n a) ∧ w_w_a s u := by
  have hn := H.1
  obtain ⟨u, p1, p2, p3⟩ := w_e139 H ha h4
  have HW := w_w_Wa H (w_w_a4 p3)
  unfold f143
  rw [p1, w_k_bs, show f143_6L u 0 0 = _ from w_e143_6 HW hp p2 (w_t_r T n (w_t_sk T n a)) 0 (by omega)]
  refine ⟨u, ?_, p2, p3⟩
  unfold f143_44 w_t_wh
  have hr : w_t_r T n (w_t_sk T n a) ≤ n - w_t_sk T n a := by have := (w_t_run_le (T := T) (n := n) (f := w_t_let) n (w_t_sk T n a) hp); unfold w_t_r; omega
  by_cases h7 : w_t_r T n (w_t_sk T n a) < 7
  · rw [if_pos (show nI (w_t_r T n (w_t_sk T n a)) < 7 from (w_k_lt (b := 7) (by omega) (by omega)).2 h7), if_pos h7, if_pos (by omega)]
  · rw [if_neg (show ¬ nI (w_t_r T n (w_t_sk T n a)) < 7 from w_k_nlt (b := 7) (by omega) (by omega) h7), if_neg h7]
    by_cases w_e7 : w_t_r T n (w_t_sk T n a) = 7
    · rw [if_pos (show nI (w_t_r T n (w_t_sk T n a)) = 7 from congrArg nI w_e7), w_e144 HW (by omega) p2, w_k_bs]
      cases h : w_t_ans T (w_t_sk T n a) with
      | false => rw [if_pos (show w_q_b false = 0 from rfl), if_neg (fun g => by cases g.2)]
      | true => rw [if_neg (by decide), if_pos ⟨w_e7, rfl⟩]
    · rw [if_neg (show ¬ nI (w_t_r T n (w_t_sk T n a)) = 7 from fun g => w_e7 ((w_k_eq (b := 7) (by omega) (by omega)).1 g)), if_neg (fun g => w_e7 g.1)]
end MW
/-! the model's words are the class's -/
section WO
variable {s : g_S} {T : Nat → Int32} {n : Nat}
theorem w_t_sk_id {a : Nat} (h : a ≤ n) : w_t_sk T n (w_t_sk T n a) = w_t_sk T n a := by
  have h1 := w_t_run_end (T := T) (n := n) (f := w_t_bl) n a (by omega)
  have h2 : ∀ k, w_t_run w_t_bl T n k (w_t_run w_t_bl T n n a) = w_t_run w_t_bl T n n a := fun k => by
    cases k with
    | zero => rfl
    | succ k =>
      generalize w_t_run w_t_bl T n n a = q at h1 ⊢
      unfold w_t_run; rw [if_neg h1]
  exact h2 n
theorem w_t_r0 {p : Nat} (hp : p ≤ n) (h : w_t_kd T n p ≠ 256) : w_t_r T n p = 0 := by
  unfold w_t_r
  have : w_t_run w_t_let T n n p = p := by
    cases n with
    | zero => rfl
    | succ m =>
      unfold w_t_run; rw [if_neg]
      rintro ⟨h1, h2⟩
      apply h; unfold w_t_kd; rw [if_pos h1, if_pos h2]
  omega
theorem w_t_r_te {p : Nat} (h : w_t_kd T n p = 256) (hB : ∀ j, j < n → w_k_wi (T j) 0 255) : w_t_te T n p = w_t_run w_t_let T n n p ∧ p < n := by
  unfold w_t_kd at h
  split at h
  · rename_i h1
    split at h
    · rename_i h2
      unfold w_t_te; rw [if_pos h1, if_pos h2]; exact ⟨rfl, h1⟩
    · split at h
      · exact absurd h (by decide)
      · obtain ⟨k, g1, g2, g3⟩ := w_k_iI (a := 0) (b := 255) (by omega) (hB p h1) (by omega)
        rw [g3] at h
        have := (w_k_eq (a := k) (b := 256) (by omega) (by omega)).1 h
        omega
  · exact absurd h (by decide)
def w_t_isw (T : Nat → Int32) (n p : Nat) (ws : List Nat) : Bool := decide (w_t_r T n p = ws.length) && (List.range ws.length).all fun i => decide (T (p + i) = nI (ws.getD i 0 + 96))
theorem w_t_isw_iff {p : Nat} {ws : List Nat} : w_t_isw T n p ws = true ↔ w_t_r T n p = ws.length ∧ ∀ i, i < ws.length → T (p + i) = nI (ws.getD i 0 + 96) := by
  unfold w_t_isw
  simp only [Bool.and_eq_true, decide_eq_true_eq, List.all_eq_true, List.mem_range]
def w_t_cr : List Nat → Nat
  | [] => 0
  | x :: xs => 27 * w_t_cr xs + x
theorem w_t_cd_r (xs : List Nat) : w_t_cd xs = w_t_cr xs.reverse := by
  unfold w_t_cd
  rw [List.foldl_eq_foldr_reverse]
  induction xs.reverse with
  | nil => rfl
  | cons x xs ih => rw [List.foldr_cons, ih]; rfl
theorem w_t_cr_inj : ∀ xs ys : List Nat, (∀ x ∈ xs, 1 ≤ x ∧ x ≤ 26) → (∀ x ∈ ys, 1 ≤ x ∧ x ≤ 26) → w_t_cr xs = w_t_cr ys → xs = ys
  | [], [], _, _, _ => rfl
  | [], y :: ys, _, h2, e => by have := h2 y (by simp); unfold w_t_cr at e; omega
  | x :: xs, [], h1, _, e => by have := h1 x (by simp); unfold w_t_cr at e; omega
  | x :: xs, y :: ys, h1, h2, e => by
    have a1 := h1 x (by simp)
    have a2 := h2 y (by simp)
    have e : 27 * w_t_cr xs + x = 27 * w_t_cr ys + y := e
    have : x = y := by omega
    subst this
    rw [w_t_cr_inj xs ys (fun x hx => h1 x (by simp [hx])) (fun x hx => h2 x (by simp [hx])) (by omega)]
theorem w_t_cd_inj {xs ys : List Nat} (h1 : ∀ x ∈ xs, 1 ≤ x ∧ x ≤ 26) (h2 : ∀ x ∈ ys, 1 ≤ x ∧ x ≤ 26) (e : w_t_cd xs = w_t_cd ys) : xs = ys := by
  rw [w_t_cd_r, w_t_cd_r] at e
  have := w_t_cr_inj _ _ (fun x hx => h1 x (List.mem_reverse.1 hx)) (fun x hx => h2 x (List.mem_reverse.1 hx)) e
  exact List.reverse_inj.1 this
theorem w_t_ls_mem {p : Nat} (hp : p ≤ n) : ∀ x ∈ w_t_ls T p (w_t_r T n p), 1 ≤ x ∧ x ≤ 26 := by
  intro x hx
  unfold w_t_ls at hx
  rw [List.mem_map] at hx
  obtain ⟨i, hi, rfl⟩ := hx
  obtain ⟨_, k, h1, h2, h3⟩ := w_t_r_let (T := T) hp (List.mem_range.1 hi)
  rw [h3, w_k_nat (by omega)]; omega
theorem w_t_ls_is {p : Nat} (hp : p ≤ n) {ws : List Nat} (hw : ∀ x ∈ ws, 1 ≤ x ∧ x ≤ 26) : w_t_ls T p (w_t_r T n p) = ws ↔ w_t_r T n p = ws.length ∧ ∀ i, i < ws.length → T (p + i) = nI (ws.getD i 0 + 96) := by
  constructor
  · rintro rfl
    refine ⟨by unfold w_t_ls; simp, fun i hi => ?_⟩
    unfold w_t_ls at hi ⊢
    rw [List.length_map, List.length_range] at hi
    obtain ⟨_, k, h1, h2, h3⟩ := w_t_r_let (T := T) hp hi
    rw [List.getD_eq_getElem?_getD, List.getElem?_map, List.getElem?_range hi]
    show T (p + i) = nI ((T (p + i)).toNatClampNeg - 96 + 96)
    rw [h3, w_k_nat (by omega)]; congr 1
  · rintro ⟨h1, h2⟩
    unfold w_t_ls
    apply List.ext_getElem
    · rw [List.length_map, List.length_range, h1]
    · intro i h3 h4
      rw [List.getElem_map, List.getElem_range, h2 i h4, List.getD_eq_getElem?_getD, List.getElem?_eq_getElem h4]
      have hm : i < w_t_r T n p := by omega
      obtain ⟨_, k, g1, g2, g3⟩ := w_t_r_let (T := T) hp hm
      have := h2 i h4
      rw [List.getD_eq_getElem?_getD, List.getElem?_eq_getElem h4] at this
      rw [g3] at this
      have hy := hw ws[i] (List.getElem_mem _)
      generalize ws[i] = y at this hy
      show (nI (y + 96)).toNatClampNeg - 96 = y
      rw [w_k_nat (by omega)]
      omega
theorem w_k_ne2 {l : Nat} (h : l < 2147483648) : ¬ nI l = -2 := fun e => by
  have := congrArg Int32.toInt e
  rw [w_k_nI h] at this
  have h2 : (-2 : Int32).toInt = -2 := rfl
  omega
theorem w_t_cd_le {p : Nat} (hp : p ≤ n) (h : w_t_r T n p < 7) : w_t_cd (w_t_ls T p (w_t_r T n p)) < 387420489 :=
  Nat.lt_of_lt_of_le (w_t_cd_lt hp _ (Nat.le_refl _)) (show 27 ^ w_t_r T n p ≤ 27 ^ 6 from Nat.pow_le_pow_right (by decide) (by omega))
theorem w_wh_code {p : Nat} (hp : p ≤ n) {ws : List Nat} (hw : ∀ x ∈ ws, 1 ≤ x ∧ x ≤ 26) (hl : ws.length < 7) (hc : w_t_cd ws < 387420489) : (w_t_wh T n p = nI (w_t_cd ws)) ↔ w_t_isw T n p ws = true := by
  rw [w_t_isw_iff, ← w_t_ls_is hp hw]
  unfold w_t_wh
  by_cases h7 : w_t_r T n p < 7
  · rw [if_pos h7]
    have := w_t_cd_le (T := T) hp h7
    rw [w_k_eq (by omega) (by omega)]
    exact ⟨fun e => w_t_cd_inj (w_t_ls_mem hp) hw e, fun e => by rw [e]⟩
  · rw [if_neg h7]
    constructor
    · intro e
      split at e
      · exact absurd e.symm (w_k_ne2 (by omega))
      · exact absurd e.symm (w_k_ne1 (by omega))
    · intro e
      rw [w_t_ls_is hp hw] at e
      omega
theorem w_wh_ans {p : Nat} (hp : p ≤ n) : (w_t_wh T n p = -2) ↔ w_t_isw T n p [1, 14, 19, 23, 5, 18, 19] = true := by
  rw [w_t_isw_iff]
  unfold w_t_wh
  by_cases h7 : w_t_r T n p < 7
  · rw [if_pos h7]
    have := w_t_cd_le (T := T) hp h7
    constructor
    · intro e; exact absurd e (w_k_ne2 (by omega))
    · rintro ⟨e, _⟩; have e : w_t_r T n p = 7 := e; omega
  · rw [if_neg h7]
    constructor
    · intro e
      split at e
      · rename_i h
        have h2 := of_decide_eq_true h.2
        refine ⟨h.1, fun i hi => ?_⟩
        match i, hi with
        | 0, _ => exact h2.1
        | 1, _ => exact h2.2.1
        | 2, _ => exact h2.2.2.1
        | 3, _ => exact h2.2.2.2.1
        | 4, _ => exact h2.2.2.2.2.1
        | 5, _ => exact h2.2.2.2.2.2.1
        | 6, _ => exact h2.2.2.2.2.2.2
      · exact absurd e (by decide)
    · rintro ⟨h1, h2⟩
      rw [if_pos ⟨h1, decide_eq_true ⟨h2 0 (by decide), h2 1 (by decide), h2 2 (by decide), h2 3 (by decide), h2 4 (by decide), h2 5 (by decide), h2 6 (by decide)⟩⟩]
theorem w_e146 (H : w_w_W s T n) {a p : Nat} (ha : a ≤ n) (h4 : s 199 4 = nI a) (hp : w_t_sk T n a = p) {ws : List Nat} (hw : (∀ x ∈ ws, 1 ≤ x ∧ x ≤ 26) ∧ ws.length < 7 ∧ w_t_cd ws < 387420489) {p1 p2 p3 p4 p5 p6 : Int32} (hc : ∀ u, f145 u p1 p2 p3 p4 p5 p6 = some (nI (w_t_cd ws))) : ∃ u, f146 s p1 p2 p3 p4 p5 p6 = some (w_q_b (w_t_isw T n p ws), u) ∧ u 199 4 = nI p ∧ w_w_a s u := by
  subst hp
  have hn := H.1
  have hle := w_t_sk_le (T := T) ha
  obtain ⟨u, q1, q2, q3⟩ := w_e143w H (by omega) hle.2 h4
  refine ⟨u, ?_, q2, q3⟩
  unfold f146
  rw [q1, w_k_bd, hc, w_k_bs]
  have := w_wh_code (T := T) hle.2 hw.1 hw.2.1 hw.2.2
  by_cases h : w_t_wh T n (w_t_sk T n a) = nI (w_t_cd ws)
  · rw [if_pos h, this.1 h]; rfl
  · rw [if_neg h, Bool.eq_false_iff.2 (fun e => h (this.2 e))]; rfl
def w_t_fi (T : Nat → Int32) (n p : Nat) : List (List Nat) → Nat → Int32
  | [], _ => -1
  | ws :: r, i => if w_t_isw T n p ws = true then nI i else w_t_fi T n p r (i + 1)
theorem w_ch1 (H : w_w_W s T n) {a p : Nat} (ha : a ≤ n) (h4 : s 199 4 = nI a) (hp : w_t_sk T n a = p) {ws : List Nat} {r : List (List Nat)} {i : Nat} {v : Int32} (hv : v = nI i) (hw : (∀ x ∈ ws, 1 ≤ x ∧ x ≤ 26) ∧ ws.length < 7 ∧ w_t_cd ws < 387420489) {p1 p2 p3 p4 p5 p6 : Int32} (hc : ∀ u, f145 u p1 p2 p3 p4 p5 p6 = some (nI (w_t_cd ws))) {F : g_S → Option (Int32 × g_S)} (hF : ∀ t, w_w_W t T n → t 199 4 = nI p → p ≤ n ∧ w_t_sk T n p = p → ∃ u, F t = some (w_t_fi T n p r (i + 1), u) ∧ u 199 4 = nI p ∧ w_w_a t u) :
    ∃ u, (g_bd (f146 s p1 p2 p3 p4 p5 p6) fun v1 s2 => if v1 = 0 then F s2 else some (v, s2)) = some (w_t_fi T n p (ws :: r) i, u) ∧ u 199 4 = nI p ∧ w_w_a s u := by
  obtain ⟨u, q1, q2, q3⟩ := w_e146 H ha h4 hp hw hc
  have hle := w_t_sk_le (T := T) ha
  rw [q1, w_k_bd]
  unfold w_t_fi
  cases h : w_t_isw T n p ws with
  | true =>
    rw [if_neg (by decide), if_pos rfl, hv]
    exact ⟨u, rfl, q2, q3⟩
  | false =>
    rw [if_pos (show w_q_b false = 0 from rfl), if_neg (by decide)]
    obtain ⟨u', r1, r2, r3⟩ := hF u (w_w_Wa H (w_w_a4 q3)) q2 ⟨by omega, by subst hp; exact w_t_sk_id ha⟩
    exact ⟨u', r1, r2, w_w_at q3 r3⟩
theorem w_ch0 {p : Nat} {i : Nat} : ∀ t : g_S, w_w_W t T n → t 199 4 = nI p → p ≤ n ∧ w_t_sk T n p = p → ∃ u, some ((-1 : Int32), t) = some (w_t_fi T n p [] i, u) ∧ u 199 4 = nI p ∧ w_w_a t u := fun t _ h _ => ⟨t, rfl, h, w_w_ar⟩
def w_t_wds : Nat → List (List Nat)
  | 0 => [[6, 18, 5, 5], [16, 1, 9, 4], [12, 5, 14, 20], [8, 9, 18, 5, 4], [16, 12, 5, 4, 7, 5], [23, 15, 18, 11], [1, 14, 25]]
  | 1 => [[13, 9, 24, 5, 4]]
  | 2 => [[16, 1, 18, 20, 19], [12, 1, 19, 20]]
  | 3 => [[1, 14, 19, 23, 5, 18, 19], [19, 23, 5, 1, 18, 19], [15, 23, 5, 19], [12, 5, 20, 19], [20, 23, 9, 3, 5]]
  | 4 => [[23, 15, 18, 14], [8, 21, 18, 20], [4, 9, 5, 4], [12, 15, 19, 20], [19, 20, 15, 12, 5, 14], [6, 15, 18, 3, 5, 4], [1, 12, 12]]
  | 5 => [[9, 6]]
  | 6 => [[15, 18]]
  | 7 => [[1, 14, 4]]
  | 8 => [[14, 15, 20]]
  | 9 => [[12, 5, 1, 19, 20], [13, 15, 19, 20]]
  | 10 => [[6, 1, 21, 12, 20], [20, 8, 5, 18, 5], [21, 19, 5], [12, 1, 20, 5], [16, 1, 19, 19, 5, 4], [20, 5, 18, 13], [22, 1, 12, 21, 5], [4, 1, 25, 19]]
  | _ => []
theorem w_e150 (H : w_w_W s T n) {a p : Nat} (ha : a ≤ n) (h4 : s 199 4 = nI a) (hp : w_t_sk T n a = p) : ∃ u, f150 s = some (w_t_fi T n p (w_t_wds 10) 0, u) ∧ u 199 4 = nI p ∧ w_w_a s u := by
  unfold f150
  refine w_ch1 H ha h4 hp rfl (by decide) (fun _ => rfl) fun t H h4 hp => ?_
  refine w_ch1 H hp.1 h4 hp.2 rfl (by decide) (fun _ => rfl) fun t H h4 hp => ?_
  refine w_ch1 H hp.1 h4 hp.2 rfl (by decide) (fun _ => rfl) fun t H h4 hp => ?_
  refine w_ch1 H hp.1 h4 hp.2 rfl (by decide) (fun _ => rfl) fun t H h4 hp => ?_
  refine w_ch1 H hp.1 h4 hp.2 rfl (by decide) (fun _ => rfl) fun t H h4 hp => ?_
  refine w_ch1 H hp.1 h4 hp.2 rfl (by decide) (fun _ => rfl) fun t H h4 hp => ?_
  refine w_ch1 H hp.1 h4 hp.2 rfl (by decide) (fun _ => rfl) fun t H h4 hp => ?_
  refine w_ch1 H hp.1 h4 hp.2 rfl (by decide) (fun _ => rfl) w_ch0
theorem w_e157 (H : w_w_W s T n) {a p : Nat} (ha : a ≤ n) (h4 : s 199 4 = nI a) (hp : w_t_sk T n a = p) : ∃ u, f157 s = some (w_t_fi T n p (w_t_wds 0) 0, u) ∧ u 199 4 = nI p ∧ w_w_a s u := by
  unfold f157
  refine w_ch1 H ha h4 hp rfl (by decide) (fun _ => rfl) fun t H h4 hp => ?_
  refine w_ch1 H hp.1 h4 hp.2 rfl (by decide) (fun _ => rfl) fun t H h4 hp => ?_
  refine w_ch1 H hp.1 h4 hp.2 rfl (by decide) (fun _ => rfl) fun t H h4 hp => ?_
  refine w_ch1 H hp.1 h4 hp.2 rfl (by decide) (fun _ => rfl) fun t H h4 hp => ?_
  refine w_ch1 H hp.1 h4 hp.2 rfl (by decide) (fun _ => rfl) fun t H h4 hp => ?_
  refine w_ch1 H hp.1 h4 hp.2 rfl (by decide) (fun _ => rfl) fun t H h4 hp => ?_
  refine w_ch1 H hp.1 h4 hp.2 rfl (by decide) (fun _ => rfl) w_ch0
theorem w_e158 (H : w_w_W s T n) {a p : Nat} (ha : a ≤ n) (h4 : s 199 4 = nI a) (hp : w_t_sk T n a = p) : ∃ u, f158 s = some (w_t_fi T n p (w_t_wds 4) 0, u) ∧ u 199 4 = nI p ∧ w_w_a s u := by
  unfold f158
  refine w_ch1 H ha h4 hp rfl (by decide) (fun _ => rfl) fun t H h4 hp => ?_
  refine w_ch1 H hp.1 h4 hp.2 rfl (by decide) (fun _ => rfl) fun t H h4 hp => ?_
  refine w_ch1 H hp.1 h4 hp.2 rfl (by decide) (fun _ => rfl) fun t H h4 hp => ?_
  refine w_ch1 H hp.1 h4 hp.2 rfl (by decide) (fun _ => rfl) fun t H h4 hp => ?_
  refine w_ch1 H hp.1 h4 hp.2 rfl (by decide) (fun _ => rfl) fun t H h4 hp => ?_
  refine w_ch1 H hp.1 h4 hp.2 rfl (by decide) (fun _ => rfl) fun t H h4 hp => ?_
  refine w_ch1 H hp.1 h4 hp.2 rfl (by decide) (fun _ => rfl) w_ch0
end WO
