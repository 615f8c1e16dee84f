section RE
variable {T : Nat → Int32} {n l : Nat}
theorem w_t_kdn {p : Nat} (h : w_t_kd T n p ≠ 258) : p < n := by
  by_cases hp : p < n
  · exact hp
  · exfalso; apply h; unfold w_t_kd; rw [if_neg hp]
theorem w_t_wof_w {p k : Nat} (h : w_t_wof T n p k ≠ -1) : w_t_kd T n p = 256 ∧ p < n := by
  have : w_t_kd T n p = 256 := by
    by_cases e : w_t_kd T n p = 256
    · exact e
    · exfalso; apply h; unfold w_t_wof; rw [if_neg e]
  exact ⟨this, w_t_kdn (by rw [this]; decide)⟩
theorem w_e65y {s : g_S} {p k : Nat} (hn : n ≤ 500) (hs : w_k_RS s T n l p) (hk : k < 11) (h : w_t_wof T n p k = 0) : f65 s k = (f68 s).bind fun s4 => some (1, s4) := by
  unfold f65; rw [w_e72 hn hs hk, w_k_bs, if_pos h]
theorem w_e65n {s : g_S} {p k : Nat} (hn : n ≤ 500) (hs : w_k_RS s T n l p) (hk : k < 11) (h : ¬ w_t_wof T n p k = 0) : f65 s k = some (0, s) := by
  unfold f65; rw [w_e72 hn hs hk, w_k_bs, if_neg h]
theorem w_k_bdbs {A B : Type} {x : Option g_S} {a : A} {K : A → g_S → Option B} : g_bd (x.bind fun s => some (a, s)) K = x.bind fun s => K a s := by cases x <;> rfl
theorem w_sP_ok (p : Nat) (c : Int32) (h : w_t_sP T n p = some c) : p < n ∧ ¬ c < 0 := by
  unfold w_t_sP at h
  split at h
  · rename_i h1
    cases h
    refine ⟨w_t_kdn (T := T) (fun e => ?_), ?_⟩
    · rw [e] at h1; exact absurd h1 (by decide)
    · rcases h1 with e | e <;> (rw [e]; decide)
  · cases h
theorem w_sS_ok (p : Nat) (c : Int32) (h : w_t_sS T n p = some c) : p < n ∧ ¬ c < 0 := by
  unfold w_t_sS at h
  split at h
  · rename_i h1
    cases h
    refine ⟨w_t_kdn (T := T) (fun e => ?_), ?_⟩
    · rw [e] at h1; exact absurd h1 (by decide)
    · rcases h1 with e | e <;> (rw [e]; decide)
  · cases h
theorem w_sA_ok (p : Nat) (c : Int32) (h : w_t_sA T n p = some c) : p < n ∧ ¬ c < 0 := by
  unfold w_t_sA at h
  split at h
  · rename_i h1
    cases h
    exact ⟨(w_t_wof_w (by rw [h1]; decide)).2, by decide⟩
  · cases h
theorem w_sO_ok (p : Nat) (c : Int32) (h : w_t_sO T n p = some c) : p < n ∧ ¬ c < 0 := by
  unfold w_t_sO at h
  split at h
  · rename_i h1
    cases h
    exact ⟨(w_t_wof_w (by rw [h1]; decide)).2, by decide⟩
  · cases h
theorem w_SP_prod (hn : n ≤ 500) (hB : ∀ j, j < n → w_k_wi (T j) 0 255) (hl : 20 ≤ l) (hl2 : l < 565) (hlay : g_lay l = o_4 l) {F : g_S → Option (Int32 × g_S)} {φ : Nat → Nat → w_t_R} {o : Nat} (hF : w_k_SP T n l o F φ) : w_k_SP T n l o (f58 F) (w_t_prod T n φ) := by
  refine w_bin_gen hn hB hl hl2 hlay hF w_sP_ok (L := f58_5L F) (G := f58_5 F) (f58_5L_eq F) (fun s y => ?_) (fun s p i hs hi h => ?_) (fun s p i c hs hi h => ?_)
  · unfold f58_5; rw [if_pos rfl, if_pos w_k_b0]
  · unfold f58_5
    rw [if_neg w_k_01, hs.1.2.1, hs.2.2.2.1, if_pos w_k_b1]
    rcases h with h | h
    · rw [if_neg (w_k_nlt (by omega) (by omega) (by omega))]
    · unfold w_t_sP at h
      by_cases e : w_t_kd T n p = 42 ∨ w_t_kd T n p = 47
      · rw [if_pos e] at h; cases h
      · rw [if_neg (fun g => e (Or.inl g)), if_neg (fun g => e (Or.inr g))]; split <;> rfl
  · unfold w_t_sP at h
    by_cases e : w_t_kd T n p = 42 ∨ w_t_kd T n p = 47
    · rw [if_pos e] at h; cases h
      unfold f58_5 f58_19
      rw [if_neg w_k_01, hs.1.2.1, hs.2.2.2.1, if_pos ((w_k_lt (by omega) (by omega)).2 hi)]
      by_cases w_e1 : w_t_kd T n p = 42
      · rw [if_pos w_e1]
      · rw [if_neg w_e1, if_pos (e.resolve_left w_e1)]
    · rw [if_neg e] at h; cases h
theorem w_SP_sum (hn : n ≤ 500) (hB : ∀ j, j < n → w_k_wi (T j) 0 255) (hl : 20 ≤ l) (hl2 : l < 565) (hlay : g_lay l = o_4 l) {F : g_S → Option (Int32 × g_S)} {φ : Nat → Nat → w_t_R} {o : Nat} (hF : w_k_SP T n l o F φ) : w_k_SP T n l o (f57 F) (w_t_sum T n φ) := by
  refine w_bin_gen hn hB hl hl2 hlay (w_SP_prod hn hB hl hl2 hlay hF) w_sS_ok (L := f57_5L F) (G := f57_5 F) (f57_5L_eq F) (fun s y => ?_) (fun s p i hs hi h => ?_) (fun s p i c hs hi h => ?_)
  · unfold f57_5; rw [if_pos rfl, if_pos w_k_b0]
  · unfold f57_5
    rw [if_neg w_k_01, hs.1.2.1, hs.2.2.2.1, if_pos w_k_b1]
    rcases h with h | h
    · rw [if_neg (w_k_nlt (by omega) (by omega) (by omega))]
    · unfold w_t_sS at h
      by_cases e : w_t_kd T n p = 43 ∨ w_t_kd T n p = 45
      · rw [if_pos e] at h; cases h
      · rw [if_neg (fun g => e (Or.inl g)), if_neg (fun g => e (Or.inr g))]; split <;> rfl
  · unfold w_t_sS at h
    by_cases e : w_t_kd T n p = 43 ∨ w_t_kd T n p = 45
    · rw [if_pos e] at h; cases h
      unfold f57_5 f57_19
      rw [if_neg w_k_01, hs.1.2.1, hs.2.2.2.1, if_pos ((w_k_lt (by omega) (by omega)).2 hi)]
      by_cases w_e1 : w_t_kd T n p = 43
      · rw [if_pos w_e1]
      · rw [if_neg w_e1, if_pos (e.resolve_left w_e1)]
    · rw [if_neg e] at h; cases h
theorem w_SP_both (hn : n ≤ 500) (hB : ∀ j, j < n → w_k_wi (T j) 0 255) (hl : 20 ≤ l) (hl2 : l < 565) (hlay : g_lay l = o_4 l) {F : g_S → Option (Int32 × g_S)} {φ : Nat → Nat → w_t_R} {o : Nat} (hF : w_k_SP T n l o F φ) : w_k_SP T n l o (f53 F) (w_t_both T n φ) := by
  refine w_bin_gen hn hB hl hl2 hlay hF w_sA_ok (L := f53_5L F) (G := f53_5 F) (f53_5L_eq F) (fun s y => ?_) (fun s p i hs hi h => ?_) (fun s p i c hs hi h => ?_)
  · unfold f53_5; rw [if_pos rfl, if_pos w_k_b0]
  · unfold f53_5
    rw [if_neg w_k_01, hs.1.2.1, if_pos w_k_b1]
    rcases h with h | h
    · rw [if_neg (w_k_nlt (by omega) (by omega) (by omega))]
    · unfold w_t_sA at h
      by_cases e : w_t_wof T n p 7 = 0
      · rw [if_pos e] at h; cases h
      · rw [w_e65n hn hs (by omega) e, w_k_bd, if_pos rfl, if_pos w_k_b1]; split <;> rfl
  · unfold w_t_sA at h
    by_cases e : w_t_wof T n p 7 = 0
    · rw [if_pos e] at h; cases h
      unfold f53_5
      rw [if_neg w_k_01, hs.1.2.1, if_pos ((w_k_lt (by omega) (by omega)).2 hi), w_e65y hn hs (by omega) e, w_k_bdbs]
      rfl
    · rw [if_neg e] at h; cases h
theorem w_SP_eith (hn : n ≤ 500) (hB : ∀ j, j < n → w_k_wi (T j) 0 255) (hl : 20 ≤ l) (hl2 : l < 565) (hlay : g_lay l = o_4 l) {F : g_S → Option (Int32 × g_S)} {φ : Nat → Nat → w_t_R} {o : Nat} (hF : w_k_SP T n l o F φ) : w_k_SP T n l o (f52 F) (w_t_eith T n φ) := by
  refine w_bin_gen hn hB hl hl2 hlay (w_SP_both hn hB hl hl2 hlay hF) w_sO_ok (L := f52_5L F) (G := f52_5 F) (f52_5L_eq F) (fun s y => ?_) (fun s p i hs hi h => ?_) (fun s p i c hs hi h => ?_)
  · unfold f52_5; rw [if_pos rfl, if_pos w_k_b0]
  · unfold f52_5
    rw [if_neg w_k_01, hs.1.2.1, if_pos w_k_b1]
    rcases h with h | h
    · rw [if_neg (w_k_nlt (by omega) (by omega) (by omega))]
    · unfold w_t_sO at h
      by_cases e : w_t_wof T n p 6 = 0
      · rw [if_pos e] at h; cases h
      · rw [w_e65n hn hs (by omega) e, w_k_bd, if_pos rfl, if_pos w_k_b1]; split <;> rfl
  · unfold w_t_sO at h
    by_cases e : w_t_wof T n p 6 = 0
    · rw [if_pos e] at h; cases h
      unfold f52_5
      rw [if_neg w_k_01, hs.1.2.1, if_pos ((w_k_lt (by omega) (by omega)).2 hi), w_e65y hn hs (by omega) e, w_k_bdbs]
      rfl
    · rw [if_neg e] at h; cases h
theorem w_e63 {s : g_S} {p o : Nat} {c : Int32} (hn : n ≤ 500) (hB : ∀ j, j < n → w_k_wi (T j) 0 255) (hs : w_k_RS s T n l p) (ho : s 11 9 = nI (o + 1)) (h : w_t_kd T n p = c) :
    ∃ u, f63 s c = some (1, u) ∧ w_k_RS u T n l (w_t_nx T n p) ∧ u 11 9 = nI o ∧ (∀ x b, x ≠ 11 → u x b = s x b) ∧ u 11 1 = s 11 1 := by
  unfold f63
  rw [hs.2.2.2.1, if_pos h, w_k_let, ho, w_k_m1]
  have hs2 : w_k_RS (g_w s 11 9 (nI o)) T n l p := ⟨w_k_RT_w hs.1 (by omega), by rw [w_k_wq (by omega)]; exact hs.2.1, by rw [w_k_wq (by omega)]; exact hs.2.2.1, by rw [w_k_wq (by omega)]; exact hs.2.2.2.1, fun e => by rw [w_k_wq (by omega)]; exact hs.2.2.2.2.1 e, hs.2.2.2.2.2⟩
  obtain ⟨u, p1, p2, p3⟩ := w_e68n hn hB hs2
  rw [p1, w_k_bs]
  refine ⟨u, rfl, p2, ?_, fun x b hx => ?_, ?_⟩
  · rw [p3 11 9 (by omega), w_k_wv]
  · rw [p3 x b (by omega), w_k_wq (by omega)]
  · rw [p3 11 1 (by omega), w_k_wq (by omega)]
theorem w_e63n {s : g_S} {p : Nat} {c : Int32} (hl : 20 ≤ l) (hs : w_k_RS s T n l p) (hj : w_k_JK s l) (h : ¬ w_t_kd T n p = c) : ∃ u, f63 s c = some (0, u) ∧ w_k_FL u T n l (1, p) ∧ w_k_fl l s u := by
  obtain ⟨u, h1, h2, h3⟩ := w_e67 (f := 1) hl hs hj
  unfold f63
  rw [hs.2.2.2.1, if_neg h, h1, w_k_bd, if_pos w_k_b0]
  exact ⟨u, rfl, h2, h3⟩
theorem w_e64 {s : g_S} {p : Nat} {c : Int32} (hn : n ≤ 500) (hB : ∀ j, j < n → w_k_wi (T j) 0 255) (hs : w_k_RS s T n l p) (h : w_t_kd T n p = c) :
    ∃ u, f64 s c = some (1, u) ∧ w_k_RS u T n l (w_t_nx T n p) ∧ (∀ x b, ¬ (x = 11 ∧ (b = 5 ∨ b = 6 ∨ b = 7 ∨ b = 8)) → u x b = s x b) := by
  unfold f64
  obtain ⟨u, p1, p2, p3⟩ := w_e68n hn hB hs
  rw [hs.2.2.2.1, if_pos h, p1, w_k_bs]
  exact ⟨u, rfl, p2, p3⟩
theorem w_e64n {s : g_S} {p : Nat} {c : Int32} (hl : 20 ≤ l) (hs : w_k_RS s T n l p) (hj : w_k_JK s l) (h : ¬ w_t_kd T n p = c) : ∃ u, f64 s c = some (0, u) ∧ w_k_FL u T n l (1, p) ∧ w_k_fl l s u := by
  obtain ⟨u, h1, h2, h3⟩ := w_e67 (f := 1) hl hs hj
  unfold f64
  rw [hs.2.2.2.1, if_neg h, h1, w_k_bd, if_pos w_k_b0]
  exact ⟨u, rfl, h2, h3⟩
theorem w_e62 {s : g_S} {p o : Nat} (hn : n ≤ 500) (hB : ∀ j, j < n → w_k_wi (T j) 0 255) (hs : w_k_RS s T n l p) (ho : s 11 9 = nI o) (h : o < 6) :
    ∃ u, f62 s = some (1, u) ∧ w_k_RS u T n l (w_t_nx T n p) ∧ u 11 9 = nI (o + 1) ∧ (∀ x b, x ≠ 11 → u x b = s x b) ∧ u 11 1 = s 11 1 := by
  unfold f62
  rw [ho, if_pos (show nI o < 6 from (w_k_lt (b := 6) (by omega) (by omega)).2 h), w_k_let, w_k_s1]
  have hs2 : w_k_RS (g_w s 11 9 (nI (o + 1))) T n l p := ⟨w_k_RT_w hs.1 (by omega), by rw [w_k_wq (by omega)]; exact hs.2.1, by rw [w_k_wq (by omega)]; exact hs.2.2.1, by rw [w_k_wq (by omega)]; exact hs.2.2.2.1, fun e => by rw [w_k_wq (by omega)]; exact hs.2.2.2.2.1 e, hs.2.2.2.2.2⟩
  obtain ⟨u, p1, p2, p3⟩ := w_e68n hn hB hs2
  rw [p1, w_k_bs]
  refine ⟨u, rfl, p2, ?_, fun x b hx => ?_, ?_⟩
  · rw [p3 11 9 (by omega), w_k_wv]
  · rw [p3 x b (by omega), w_k_wq (by omega)]
  · rw [p3 11 1 (by omega), w_k_wq (by omega)]
theorem w_e62n {s : g_S} {p o : Nat} (hl : 20 ≤ l) (hs : w_k_RS s T n l p) (hj : w_k_JK s l) (ho : s 11 9 = nI o) (h : ¬ o < 6) (ho2 : o < 100) : ∃ u, f62 s = some (0, u) ∧ w_k_FL u T n l (3, p) ∧ w_k_fl l s u := by
  obtain ⟨u, h1, h2, h3⟩ := w_e67 (f := 3) hl hs hj
  unfold f62
  rw [ho, if_neg (show ¬ nI o < 6 from w_k_nlt (b := 6) (by omega) (by omega) h), h1, w_k_bd, if_pos w_k_b0]
  exact ⟨u, rfl, h2, h3⟩
end RE
section RU
variable {T : Nat → Int32} {n l : Nat}
theorem w_t_wl_is {str : List Nat} {same : Nat → Nat → Bool} : ∀ f w b i, w_t_wl str same f w b i = -1 ∨ ∃ x, x ≤ w + f ∧ w_t_wl str same f w b i = nI x
  | 0, w, b, i => Or.inl rfl
  | f + 1, w, b, i => by
    unfold w_t_wl
    by_cases h1 : str.length < i
    · rw [if_pos h1]; exact Or.inl rfl
    · rw [if_neg h1]
      by_cases h2 : i = str.length ∨ str.getD i 0 = 32
      · rw [if_pos h2]
        by_cases h3 : same b i = true
        · rw [if_pos h3]; exact Or.inr ⟨w, by omega, rfl⟩
        · rw [if_neg h3]
          rcases w_t_wl_is (str := str) (same := same) f (w + 1) (i + 1) (i + 1) with h | ⟨x, hx, h⟩
          · exact Or.inl h
          · exact Or.inr ⟨x, by omega, h⟩
      · rw [if_neg h2]
        rcases w_t_wl_is (str := str) (same := same) f w b (i + 1) with h | ⟨x, hx, h⟩
        · exact Or.inl h
        · exact Or.inr ⟨x, by omega, h⟩
theorem w_t_wof_is (p k : Nat) : w_t_wof T n p k = -1 ∨ ∃ x, x ≤ 60 ∧ w_t_wof T n p k = nI x := by
  unfold w_t_wof; split
  · rcases w_t_wl_is (str := m_text.getD k []) (same := w_t_same T n p (m_text.getD k [])) 60 0 0 0 with h | ⟨x, hx, h⟩
    · exact Or.inl h
    · exact Or.inr ⟨x, by omega, h⟩
  · exact Or.inl rfl
theorem w_t_wof0 {p k : Nat} (h : ¬ w_t_wof T n p k = -1) : ¬ w_t_wof T n p k < 0 := by
  rcases w_t_wof_is (T := T) (n := n) p k with e | ⟨x, hx, e⟩
  · exact absurd e h
  · rw [e]; exact w_k_nlt (b := 0) (by omega) (by omega) (by omega)
theorem w_k_l4 {s : g_S} (hl2 : l < 565) (h : w_k_RT s T n l) : (s 11 4).toNatClampNeg = l := by rw [h.2.2.1, w_k_nat (by omega)]
theorem w_k_256 {x : Int32} (h0 : ¬ x < 0) (h1 : ¬ 9999 < x) : ¬ (256 + x) < 0 := by
  obtain ⟨k, hk, rfl⟩ := w_k_of h0
  rw [show (256 + nI k : Int32) = nI (256 + k) from w_k_add 256 k]
  have : ¬ 9999 < k := fun h => h1 ((w_k_lt (a := 9999) (by omega) hk).2 h)
  exact w_k_nlt (b := 0) (by omega) (by omega) (by omega)
theorem w_one_step (hn : n ≤ 500) (hB : ∀ j, j < n → w_k_wi (T j) 0 255) (hl : 20 ≤ l) (hl2 : l < 565) (hlay : g_lay l = o_4 l) {s : g_S} {p o k : Nat} {cs : List w_q_C} {a b d mix v : Int32} {xs : List Int32}
    (hs : w_k_RS s T n l p) (hw : w_k_LW s l cs (a, (b, (d, xs))) mix k) (ho : s 11 9 = nI o) (hk : k ≤ p) (hp : p < n) (hv : ¬ v < 0) :
    w_OK (if g_lay (s 11 4).toNatClampNeg = o_4 (s 11 4).toNatClampNeg then (f33 s ((s 11 4).toNatClampNeg) v).bind fun s9 => (f68 s9).bind fun s11 => some (1, s11) else none) (w_k_PR T n l o cs a b d xs mix k p s (.inr (w_t_nx T n p, [v]))) := by
  have hl4 := w_k_l4 hl2 hs.1
  obtain ⟨z, z1, z2, z3⟩ := w_e33 (v := v) hw hl (by omega) hv
  have hnx := w_t_nx_lt (T := T) hp
  have hsz := w_k_RS_l hs hl z3
  obtain ⟨u, p1, p2, p3⟩ := w_e68n hn hB hsz
  rw [hl4, if_pos hlay, z1, w_k_bs, p1, w_k_bs]
  have w_e11 : z 11 = s 11 := z3 11 (by omega)
  refine w_ok_some ⟨rfl, p2, w_k_LW_11 z2 hl (fun x b hx => p3 x b (by omega)), ?_, w_k_fl_tr (w_k_fl_l z3) (w_k_fl_11 (fun x b hx => p3 x b (by omega))), by show p + 1 ≤ _; omega, ?_⟩
  · dsimp only; rw [p3 11 9 (by omega), w_e11]; exact ho
  · dsimp only; rw [p3 11 1 (by omega), w_e11]
def w_t_ts (T : Nat → Int32) (n : Nat) (c : Int32) (R : w_t_R) : w_t_R := match R with
  | .inl e => .inl e
  | .inr (q, ys) => w_t_sign T n c q ys
theorem w_then_sign (hn : n ≤ 500) (hB : ∀ j, j < n → w_k_wi (T j) 0 255) (hl : 20 ≤ l) {s : g_S} {o k p0 : Nat} {cs : List w_q_C} {a b d mix c : Int32} {xs : List Int32} {R : w_t_R} {w : Int32 × g_S}
    (h : w_k_PR T n l (o + 1) cs a b d xs mix k p0 s R w) : w_OK (if w.1 = 0 then some (0, w.2) else g_bd (f63 w.2 c) fun v8 s9 => if v8 = 0 then some ((0 : Int32), s9) else some (1, s9))
      (w_k_PR T n l o cs a b d xs mix k p0 s (w_t_ts T n c R)) := by
  unfold w_t_ts
  obtain ⟨v, t⟩ := w
  dsimp only
  cases R with
  | inl e =>
    obtain ⟨r1, r2, r3⟩ := h
    dsimp only at r1 r2 r3
    rw [if_pos r1]
    exact w_ok_some ⟨rfl, r2, r3⟩
  | inr w =>
    obtain ⟨q, ys⟩ := w
    obtain ⟨r1, r2, r3, r4, r5, r6, r7⟩ := h
    dsimp only at r1 r2 r3 r4 r5 r6 r7
    dsimp only
    rw [r1, if_neg w_k_01]
    unfold w_t_sign
    by_cases hc : w_t_kd T n q = c
    · rw [if_pos hc]
      obtain ⟨u, p1, p2, p3, p4, p5⟩ := w_e63 hn hB r2 r4 hc
      have hnx := w_t_nx_le (T := T) r2.2.2.2.2.2
      rw [p1, w_k_bd, if_neg w_k_01]
      exact w_ok_some ⟨rfl, p2, w_k_LW_11 r3 hl p4, p3, w_k_fl_tr r5 (w_k_fl_11 p4), by omega, by dsimp only; rw [p5, r7]⟩
    · rw [if_neg hc]
      obtain ⟨u, p1, p2, p3⟩ := w_e63n (c := c) hl r2 (w_k_LW_JK r3) hc
      rw [p1, w_k_bd, if_pos rfl]
      exact w_ok_some ⟨rfl, p2, w_k_fl_tr r5 p3⟩
theorem w_SP_unit (hn : n ≤ 500) (hB : ∀ j, j < n → w_k_wi (T j) 0 255) (hl : 20 ≤ l) (hl2 : l < 565) (hlay : g_lay l = o_4 l) {F : g_S → Option (Int32 × g_S)} {φ : Nat → Nat → w_t_R} {o : Nat} (ho6 : o ≤ 6) (hF : o < 6 → w_k_SP T n l (o + 1) F φ) : w_k_SP T n l o (f59 F) (w_t_unit T n φ) := by
  intro s p cs a b d xs mix k hs hw ho hk
  have hj := w_k_LW_JK hw
  unfold f59 w_t_unit
  rw [hs.2.2.2.1]
  by_cases h40 : w_t_kd T n p = 40
  · rw [if_pos h40, if_pos h40]
    have hpn : p < n := w_t_kdn (T := T) (by rw [h40]; decide)
    have hnx := w_t_nx_lt (T := T) hpn
    unfold w_t_par
    by_cases h6 : o < 6
    · rw [if_pos h6]
      obtain ⟨u, p1, p2, p3, p4, p5⟩ := w_e62 hn hB hs ho h6
      rw [p1, w_k_bd, if_neg w_k_01]
      obtain ⟨w, q1, q2⟩ := w_SP_sum hn hB hl hl2 hlay (hF h6) u (w_t_nx T n p) cs a b d xs mix k p2 (w_k_LW_11 hw hl p4) p3 (by omega)
      rw [q1]
      obtain ⟨z, z1, z2⟩ := w_then_sign (c := 41) hn hB hl q2
      refine ⟨z, z1, ?_⟩
      unfold w_t_ts at z2
      cases hR : w_t_sum T n φ (w_t_nx T n p) (o + 1) with
      | inl e => rw [hR] at z2; exact ⟨z2.1, z2.2.1, w_k_fl_tr (w_k_fl_11 p4) z2.2.2⟩
      | inr e =>
        obtain ⟨q, ys⟩ := e
        rw [hR] at z2
        dsimp only at z2 ⊢
        cases hS : w_t_sign T n 41 q ys with
        | inl e => rw [hS] at z2; exact ⟨z2.1, z2.2.1, w_k_fl_tr (w_k_fl_11 p4) z2.2.2⟩
        | inr e => rw [hS] at z2; exact ⟨z2.1, z2.2.1, z2.2.2.1, z2.2.2.2.1, w_k_fl_tr (w_k_fl_11 p4) z2.2.2.2.2.1, by have := z2.2.2.2.2.2.1; omega, by rw [z2.2.2.2.2.2.2, p5]⟩
    · rw [if_neg h6]
      obtain ⟨u, p1, p2, p3⟩ := w_e62n hl hs hj ho h6 (by omega)
      rw [p1, w_k_bd, if_pos rfl]
      exact w_ok_some ⟨rfl, p2, p3⟩
  · rw [if_neg h40, if_neg h40]
    by_cases h257 : w_t_kd T n p = 257
    · rw [if_pos h257, if_pos h257]
      have hpn : p < n := w_t_kdn (T := T) (by rw [h257]; decide)
      unfold f60 f66 f66_16
      rw [hs.2.2.2.1, if_pos h257, hs.2.2.2.2.1 h257]
      have bad : w_OK (g_bd (g_bd (g_bd (f67 s 2) fun v1 s2 => if v1 = 0 then some ((0 : Int32), s2) else some (1, s2)) fun v1 s2 => if v1 = 0 then some ((0 : Int32), s2) else if g_lay (s2 11 4).toNatClampNeg = o_4 (s2 11 4).toNatClampNeg then (f33 s2 ((s2 11 4).toNatClampNeg) (256 + (s2 11 8))).bind fun s6 => (f68 s6).bind fun s8 => some (1, s8) else none) fun v3 s4 => if m_isb v3 = true then some (v3, s4) else none) (w_k_PR T n l o cs a b d xs mix k p s (.inl (2, p))) := by
        obtain ⟨u, h1, h2, h3⟩ := w_e67 (f := 2) hl hs hj
        rw [h1, w_k_bd, if_pos rfl, w_k_bd, if_pos rfl, w_k_bd, if_pos w_k_b0]
        exact w_ok_some ⟨rfl, h2, h3⟩
      by_cases hb1 : w_t_num T n p < 0
      · rw [if_pos hb1, if_pos (Or.inl hb1)]; exact bad
      · rw [if_neg hb1]
        by_cases hb2 : 9999 < w_t_num T n p
        · rw [if_pos hb2, if_pos (Or.inr hb2)]; exact bad
        · rw [if_neg hb2, if_neg (fun h => h.elim hb1 hb2), w_k_bd, if_neg w_k_01, hs.2.2.2.2.1 h257]
          obtain ⟨w, q1, q2⟩ := w_one_step hn hB hl hl2 hlay hs hw ho hk hpn (v := 256 + w_t_num T n p) (w_k_256 hb1 hb2)
          rw [q1]
          obtain ⟨v, t⟩ := w
          have r1 : v = 1 := q2.1
          subst r1
          rw [w_k_bd, if_pos w_k_b1]
          exact w_ok_some q2
    · rw [if_neg h257, if_neg h257, w_e72 hn hs (by omega), w_k_bs]
      by_cases h9 : w_t_wof T n p 9 = -1
      · rw [if_pos h9, if_pos h9, w_e72 hn hs (by omega), w_k_bs]
        by_cases h10 : w_t_wof T n p 10 = -1
        · rw [if_pos h10, if_pos h10]
          exact w_e67b hl hs hj
        · rw [if_neg h10, if_neg h10]
          exact w_one_step hn hB hl hl2 hlay hs hw ho hk (w_t_wof_w h10).2 (w_t_wof0 h10)
      · rw [if_neg h9, if_neg h9]
        have hpn := (w_t_wof_w h9).2
        have hnx := w_t_nx_lt (T := T) hpn
        obtain ⟨s1, p1, p2, p3⟩ := w_e68n hn hB hs
        have f1 : ∀ x b, x ≠ 11 → s1 x b = s x b := fun x b hx => p3 x b (by omega)
        have hw1 := w_k_LW_11 hw hl f1
        have ho1 : s1 11 9 = nI o := by rw [p3 11 9 (by omega)]; exact ho
        have w_e1 : s1 11 1 = s 11 1 := p3 11 1 (by omega)
        rw [p1, w_k_bs]
        have cho : ∀ c : Int32, ¬ c < 0 → w_OK (f59_40 F s1 c) (w_k_PR T n l o cs a b d xs mix k p s (w_t_cho T n φ c (w_t_nx T n p) o)) := by
          intro c hc
          unfold f59_40 f61 f61_27 f61_28
          rw [p2.2.2.2.1]
          -- after a failure: the step is told to what is thrown away
          have fin : ∀ (z : g_S) (e : Int32 × Nat), w_k_FL z T n l e → w_k_fl l s z → w_OK (g_bd (if g_lay (z 11 4).toNatClampNeg = o_4 (z 11 4).toNatClampNeg then (f33 z ((z 11 4).toNatClampNeg) c).bind fun s3 => if m_isb 0 = true then some ((0 : Int32), s3) else none else none) fun v1 s2 => if m_isb v1 = true then some (v1, s2) else none) (w_k_PR T n l o cs a b d xs mix k p s (.inl e)) := by
            intro z e hz hf
            obtain ⟨y, y1, y2, y3⟩ := w_e33j (v := c) hz.2.2.2 hl
            rw [w_k_l4 hl2 hz.1, if_pos hlay, y1, w_k_bs, if_pos w_k_b0, w_k_bd, if_pos w_k_b0]
            exact w_ok_some ⟨rfl, w_k_FL_l hz hl y3 y2, w_k_fl_tr hf (w_k_fl_l y3)⟩
          unfold w_t_cho
          by_cases g40 : w_t_kd T n (w_t_nx T n p) = 40
          · rw [if_pos g40, if_pos g40]
            have hqn : w_t_nx T n p < n := w_t_kdn (T := T) (by rw [g40]; decide)
            have hnx2 := w_t_nx_lt (T := T) hqn
            by_cases h6 : o < 6
            · rw [if_pos h6]
              obtain ⟨s2, b1, b2, b3, b4, b5⟩ := w_e62 hn hB p2 ho1 h6
              rw [b1, w_k_bd, if_neg w_k_01]
              have hf2 : w_k_fl l s s2 := w_k_fl_tr (w_k_fl_11 f1) (w_k_fl_11 b4)
              obtain ⟨⟨v, t⟩, q1, q2⟩ := w_SP_sum hn hB hl hl2 hlay (hF h6) s2 (w_t_nx T n (w_t_nx T n p)) cs a b d xs mix k b2 (w_k_LW_11 hw1 hl b4) b3 (by omega)
              rw [q1, w_k_bd]
              cases hR : w_t_sum T n φ (w_t_nx T n (w_t_nx T n p)) (o + 1) with
              | inl e =>
                rw [hR] at q2
                obtain ⟨r1, r2, r3⟩ := q2
                dsimp only at r1 r2 r3
                rw [if_pos r1]
                exact fin t e r2 (w_k_fl_tr hf2 r3)
              | inr e =>
                obtain ⟨q, ys⟩ := e
                rw [hR] at q2
                obtain ⟨r1, r2, r3, r4, r5, r6, r7⟩ := q2
                dsimp only at r1 r2 r3 r4 r5 r6 r7
                rw [r1, if_neg w_k_01]
                dsimp only
                by_cases g44 : w_t_kd T n q = 44
                · rw [if_pos g44]
                  have hqn2 : q < n := w_t_kdn (T := T) (by rw [g44]; decide)
                  have hnx3 := w_t_nx_lt (T := T) hqn2
                  obtain ⟨s3, c1, c2, c3⟩ := w_e64 hn hB r2 g44
                  have f3 : ∀ x b, x ≠ 11 → s3 x b = t x b := fun x b hx => c3 x b (by omega)
                  rw [c1, w_k_bd, if_neg w_k_01]
                  obtain ⟨⟨v2, t2⟩, d1, d2⟩ := w_SP_sum hn hB hl hl2 hlay (hF h6) s3 (w_t_nx T n q) cs a b d (xs ++ ys) mix (k + ys.length) c2 (w_k_LW_11 r3 hl f3) (by rw [c3 11 9 (by omega)]; exact r4) (by omega)
                  rw [d1, w_k_bd]
                  have hf3 : w_k_fl l s s3 := w_k_fl_tr hf2 (w_k_fl_tr r5 (w_k_fl_11 f3))
                  cases hR2 : w_t_sum T n φ (w_t_nx T n q) (o + 1) with
                  | inl e =>
                    rw [hR2] at d2
                    obtain ⟨w1, w2, w3⟩ := d2
                    dsimp only at w1 w2 w3
                    rw [if_pos w1]
                    exact fin t2 e w2 (w_k_fl_tr hf3 w3)
                  | inr e =>
                    obtain ⟨r, zs⟩ := e
                    rw [hR2] at d2
                    obtain ⟨w1, w2, w3, w4, w5, w6, w7⟩ := d2
                    dsimp only at w1 w2 w3 w4 w5 w6 w7
                    rw [w1, if_neg w_k_01]
                    dsimp only
                    have hf4 : w_k_fl l s t2 := w_k_fl_tr hf3 w5
                    have hnr := w_t_nx_le (T := T) w2.2.2.2.2.2
                    unfold w_t_sign
                    by_cases g41 : w_t_kd T n r = 41
                    · rw [if_pos g41]
                      obtain ⟨s4, x1, x2, x3, x4, x5⟩ := w_e63 hn hB w2 w4 g41
                      obtain ⟨y, y1, y2, y3⟩ := w_e33 (v := c) (w_k_LW_11 w3 hl x4) hl (by have := w2.2.2.2.2.2; omega) hc
                      rw [x1, w_k_bd, if_neg w_k_01, w_k_l4 hl2 x2.1, if_pos hlay, y1, w_k_bs, if_pos w_k_b1, w_k_bd, if_pos w_k_b1]
                      have w_e11 : y 11 = s4 11 := y3 11 (by omega)
                      have eacc : xs ++ ys ++ zs ++ [c] = xs ++ (ys ++ (zs ++ [c])) := by simp
                      have elen : k + ys.length + zs.length + 1 = k + (ys ++ (zs ++ [c])).length := by simp; omega
                      rw [eacc, elen] at y2
                      refine w_ok_some ⟨rfl, w_k_RS_l x2 hl y3, y2, ?_, w_k_fl_tr hf4 (w_k_fl_tr (w_k_fl_11 x4) (w_k_fl_l y3)), ?_, ?_⟩
                      · dsimp only; rw [w_e11]; exact x3
                      · show p + (ys ++ (zs ++ [c])).length ≤ _; simp; omega
                      · dsimp only; rw [w_e11, x5, w7, c3 11 1 (by omega), r7, b5, w_e1]
                    · rw [if_neg g41]
                      obtain ⟨s4, x1, x2, x3⟩ := w_e63n (c := 41) hl w2 (w_k_LW_JK w3) g41
                      rw [x1, w_k_bd, if_pos rfl]
                      exact fin s4 _ x2 (w_k_fl_tr hf4 x3)
                · rw [if_neg g44]
                  obtain ⟨s3, c1, c2, c3⟩ := w_e64n (c := 44) hl r2 (w_k_LW_JK r3) g44
                  rw [c1, w_k_bd, if_pos rfl]
                  exact fin s3 _ c2 (w_k_fl_tr hf2 (w_k_fl_tr r5 c3))
            · rw [if_neg h6]
              obtain ⟨s2, b1, b2, b3⟩ := w_e62n hl p2 (w_k_LW_JK hw1) ho1 h6 (by omega)
              rw [b1, w_k_bd, if_pos rfl]
              exact fin s2 _ b2 (w_k_fl_tr (w_k_fl_11 f1) b3)
          · rw [if_neg g40, if_neg g40]
            obtain ⟨u, h1, h2, h3⟩ := w_e67 (f := 1) hl p2 (w_k_LW_JK hw1)
            rw [h1, w_k_bd, if_pos w_k_b0, w_k_bd, if_pos w_k_b0]
            exact w_ok_some ⟨rfl, h2, w_k_fl_tr (w_k_fl_11 f1) h3⟩
        by_cases h90 : w_t_wof T n p 9 = 0
        · rw [if_pos h90, if_pos h90]; exact cho 108 (by decide)
        · rw [if_neg h90, if_neg h90]; exact cho 109 (by decide)
theorem w_SP_U (hn : n ≤ 500) (hB : ∀ j, j < n → w_k_wi (T j) 0 255) (hl : 20 ≤ l) (hl2 : l < 565) (hlay : g_lay l = o_4 l) : ∀ m o, o ≤ 6 → 7 ≤ m + o → w_k_SP T n l o (g59 m) (w_t_U T n m)
  | 0, o, h1, h2 => by omega
  | m + 1, o, h1, h2 => w_SP_unit hn hB hl hl2 hlay h1 (fun h => w_SP_U hn hB hl hl2 hlay m (o + 1) (by omega) (by omega))
theorem w_SP_E (hn : n ≤ 500) (hB : ∀ j, j < n → w_k_wi (T j) 0 255) (hl : 20 ≤ l) (hl2 : l < 565) (hlay : g_lay l = o_4 l) {o : Nat} (ho : o ≤ 6) : w_k_SP T n l o f57c (w_t_E T n) :=
  w_SP_sum hn hB hl hl2 hlay (w_SP_U hn hB hl hl2 hlay 9 o ho (by omega))
end RU
