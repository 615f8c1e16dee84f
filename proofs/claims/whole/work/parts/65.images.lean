/-! images -/
def w_k_lc (j : Nat) : Nat := if j < 8 then 199 else if j < 166 then (if (j - 10) % 12 < 5 then 209 + (j - 10) / 12 else if (j - 10) % 12 = 5 then 222 else if (j - 10) % 12 = 6 then 223 else 225 + (j - 10) / 12) else if j < 194 then 260 + (j - 170) / 3 else 540 + (j - 200) / 2
def w_k_lf (j : Nat) : Nat := if j < 8 then [26, 27, 28, 29, 13, 43, 49, 50].getD j 0 else if j < 166 then (if (j - 10) % 12 < 5 then (j - 10) % 12 else if (j - 10) % 12 = 5 then (j - 10) / 12 else if (j - 10) % 12 = 6 then (j - 10) / 12 else (j - 10) % 12 - 7) else if j < 194 then (j - 170) % 3 else (j - 200) % 2
def w_k_inv (c f : Nat) : Nat := if c = 199 then (if f = 26 then 0 else if f = 27 then 1 else if f = 28 then 2 else if f = 29 then 3 else if f = 13 then 4 else if f = 43 then 5 else if f = 49 then 6 else 7) else if c < 222 then 10 + 12 * (c - 209) + f else if c = 222 then 15 + 12 * f else if c = 223 then 16 + 12 * f else if c < 240 then 17 + 12 * (c - 225) + f else if c < 300 then 170 + 3 * (c - 260) + f else 200 + 2 * (c - 540) + f
theorem w_k_linv : ∀ j, j < 240 → w_k_us j → w_k_inv (w_k_lc j) (w_k_lf j) = j ∧ w_k_lc j < 560 ∧ 199 ≤ w_k_lc j := by decide +kernel
theorem w_k_us240 {j : Nat} (h : w_k_us j) : j < 240 := by unfold w_k_us at h; omega
theorem w_k_linj {i j : Nat} (hi : w_k_us i) (hj : w_k_us j) (h1 : w_k_lc i = w_k_lc j) (h2 : w_k_lf i = w_k_lf j) : i = j := by
  rw [← (w_k_linv i (w_k_us240 hi) hi).1, ← (w_k_linv j (w_k_us240 hj) hj).1, h1, h2]
theorem w_k_lh : ∀ h, h < 13 → (∀ i, i < 5 → w_k_lc (10 + 12 * h + i) = 209 + h ∧ w_k_lf (10 + 12 * h + i) = i) ∧ (w_k_lc (15 + 12 * h) = 222 ∧ w_k_lf (15 + 12 * h) = h) ∧ (w_k_lc (16 + 12 * h) = 223 ∧ w_k_lf (16 + 12 * h) = h) ∧ (∀ f, f < 4 → w_k_lc (17 + 12 * h + f) = 225 + h ∧ w_k_lf (17 + 12 * h + f) = f) := by decide +kernel
theorem w_k_lq : ∀ q, q < 8 → ∀ i, i < 3 → w_k_lc (170 + 3 * q + i) = 260 + q ∧ w_k_lf (170 + 3 * q + i) = i := by decide +kernel
theorem w_k_lp : ∀ p, p < 20 → ∀ i, i < 2 → w_k_lc (200 + 2 * p + i) = 540 + p ∧ w_k_lf (200 + 2 * p + i) = i := by decide +kernel
theorem w_k_MVl {s : g_S} {V : w_k_V} : w_k_MV s V ↔ ∀ j, w_k_us j → s (w_k_lc j) (w_k_lf j) = V j := by
  constructor
  · intro H j hj
    by_cases h8 : j < 8
    · obtain ⟨a0, a1, a2, a3, a4, a5, a6, a7⟩ := H.1
      match j, h8 with
      | 0, _ => exact a0
      | 1, _ => exact a1
      | 2, _ => exact a2
      | 3, _ => exact a3
      | 4, _ => exact a4
      | 5, _ => exact a5
      | 6, _ => exact a6
      | 7, _ => exact a7
    · by_cases h166 : j < 166
      · obtain ⟨h, i, hh, hi, rfl⟩ : ∃ h i, h < 13 ∧ i < 11 ∧ j = 10 + 12 * h + i := ⟨(j - 10) / 12, (j - 10) % 12, by unfold w_k_us at hj; omega, by unfold w_k_us at hj; omega, by unfold w_k_us at hj; omega⟩
        obtain ⟨b1, b2, b3, b4⟩ := w_k_lh h hh
        by_cases i5 : i < 5
        · rw [(b1 i i5).1, (b1 i i5).2]; exact H.2.1 h i hh i5
        · by_cases w_e5 : i = 5
          · subst w_e5; rw [show 10 + 12 * h + 5 = 15 + 12 * h by omega, b2.1, b2.2]; exact (H.2.2.1 h hh).1
          · by_cases e6 : i = 6
            · subst e6; rw [show 10 + 12 * h + 6 = 16 + 12 * h by omega, b3.1, b3.2]; exact (H.2.2.1 h hh).2
            · obtain ⟨f, rfl⟩ : ∃ f, i = 7 + f := ⟨i - 7, by omega⟩
              have hf : f < 4 := by omega
              rw [show 10 + 12 * h + (7 + f) = 17 + 12 * h + f by omega, (b4 f hf).1, (b4 f hf).2]; exact H.2.2.2.1 h f hh hf
      · by_cases h194 : j < 194
        · obtain ⟨q, i, hq, hi, rfl⟩ : ∃ q i, q < 8 ∧ i < 3 ∧ j = 170 + 3 * q + i := ⟨(j - 170) / 3, (j - 170) % 3, by omega, by omega, by unfold w_k_us at hj; omega⟩
          rw [(w_k_lq q hq i hi).1, (w_k_lq q hq i hi).2]; exact H.2.2.2.2.1 q i hq hi
        · obtain ⟨p, i, hp, hi, rfl⟩ : ∃ p i, p < 20 ∧ i < 2 ∧ j = 200 + 2 * p + i := ⟨(j - 200) / 2, (j - 200) % 2, by unfold w_k_us at hj; omega, by omega, by unfold w_k_us at hj; omega⟩
          rw [(w_k_lp p hp i hi).1, (w_k_lp p hp i hi).2]
          match i, hi with
          | 0, _ => exact (H.2.2.2.2.2 p hp).1
          | 1, _ => exact (H.2.2.2.2.2 p hp).2.trans (congrArg V (by omega))
  · intro H
    refine ⟨⟨H 0 (by decide), H 1 (by decide), H 2 (by decide), H 3 (by decide), H 4 (by decide), H 5 (by decide), H 6 (by decide), H 7 (by decide)⟩, fun h i hh hi => ?_, fun h hh => ?_, fun h f hh hf => ?_, fun q i hq hi => ?_, fun p hp => ?_⟩
    · have := H (10 + 12 * h + i) (by unfold w_k_us; omega)
      rw [((w_k_lh h hh).1 i hi).1, ((w_k_lh h hh).1 i hi).2] at this; exact this
    · have h1 := H (15 + 12 * h) (by unfold w_k_us; omega)
      have h2 := H (16 + 12 * h) (by unfold w_k_us; omega)
      rw [((w_k_lh h hh).2.1).1, ((w_k_lh h hh).2.1).2] at h1
      rw [((w_k_lh h hh).2.2.1).1, ((w_k_lh h hh).2.2.1).2] at h2
      exact ⟨h1, h2⟩
    · have := H (17 + 12 * h + f) (by unfold w_k_us; omega)
      rw [((w_k_lh h hh).2.2.2 f hf).1, ((w_k_lh h hh).2.2.2 f hf).2] at this; exact this
    · have := H (170 + 3 * q + i) (by unfold w_k_us; omega)
      rw [(w_k_lq q hq i hi).1, (w_k_lq q hq i hi).2] at this; exact this
    · have h1 := H (200 + 2 * p + 0) (by unfold w_k_us; omega)
      have h2 := H (200 + 2 * p + 1) (by unfold w_k_us; omega)
      rw [(w_k_lp p hp 0 (by omega)).1, (w_k_lp p hp 0 (by omega)).2] at h1
      rw [(w_k_lp p hp 1 (by omega)).1, (w_k_lp p hp 1 (by omega)).2] at h2
      exact ⟨h1, h2.trans (congrArg V (by omega))⟩
def w_k_mv (s : g_S) (k : Nat) (b : Int32) (n : Nat) (t : g_S) : Prop :=
  (∀ j, w_k_us j → j < n → if b = 0 then t (561 + k) j = s (w_k_lc j) (w_k_lf j) else t (w_k_lc j) (w_k_lf j) = s (561 + k) j) ∧
  ∀ x c, (∀ j, w_k_us j → j < n → ¬ (if b = 0 then x = 561 + k ∧ c = j else x = w_k_lc j ∧ c = w_k_lf j)) → t x c = s x c
theorem w_mv_0 {s : g_S} {k : Nat} {b : Int32} : w_k_mv s k b 0 s := ⟨fun j _ h => absurd h (by omega), fun _ _ _ => rfl⟩
theorem w_mv_skip {s t : g_S} {k n m : Nat} {b : Int32} (h : w_k_mv s k b n t) (hm : n ≤ m) (hu : ∀ j, n ≤ j → j < m → ¬ w_k_us j) : w_k_mv s k b m t :=
  ⟨fun j h1 h2 => h.1 j h1 (by have := hu j; by_cases e : j < n; exact e; exact absurd h1 (this (by omega) h2)), fun x c h3 => h.2 x c (fun j h1 h2 => h3 j h1 (by omega))⟩
theorem w_mv_src {s t : g_S} {k n j : Nat} {b : Int32} (h : w_k_mv s k b n t) (hj : w_k_us j) : (b = 0 → t (w_k_lc j) (w_k_lf j) = s (w_k_lc j) (w_k_lf j)) ∧ (b ≠ 0 → t (561 + k) j = s (561 + k) j) := by
  refine ⟨fun hb => h.2 _ _ (fun i h1 h2 => ?_), fun hb => h.2 _ _ (fun i h1 h2 => ?_)⟩
  · rw [if_pos hb]; have := (w_k_linv j (w_k_us240 hj) hj).2.1; omega
  · rw [if_neg hb]; have := (w_k_linv i (w_k_us240 h1) h1).2.1; omega
theorem w_mv_step {s t u : g_S} {k n : Nat} {b : Int32} (h : w_k_mv s k b n t) (hn : w_k_us n)
    (h0 : b = 0 → u (561 + k) n = s (w_k_lc n) (w_k_lf n) ∧ ∀ x c, ¬ (x = 561 + k ∧ c = n) → u x c = t x c)
    (h1 : b ≠ 0 → u (w_k_lc n) (w_k_lf n) = s (561 + k) n ∧ ∀ x c, ¬ (x = w_k_lc n ∧ c = w_k_lf n) → u x c = t x c) : w_k_mv s k b (n + 1) u := by
  by_cases hb : b = 0
  · obtain ⟨p1, p2⟩ := h0 hb
    refine ⟨fun j h2 h3 => ?_, fun x c h3 => ?_⟩
    · rw [if_pos hb]
      by_cases e : j = n
      · subst e; exact p1
      · rw [p2 _ _ (by omega)]
        have := h.1 j h2 (by omega)
        rw [if_pos hb] at this; exact this
    · have hx := h3 n hn (by omega)
      rw [if_pos hb] at hx
      rw [p2 x c hx]
      exact h.2 x c (fun j h4 h5 => h3 j h4 (by omega))
  · obtain ⟨p1, p2⟩ := h1 hb
    refine ⟨fun j h2 h3 => ?_, fun x c h3 => ?_⟩
    · rw [if_neg hb]
      by_cases e : j = n
      · subst e; exact p1
      · rw [p2 _ _ (fun g => e (w_k_linj h2 hn g.1 g.2))]
        have := h.1 j h2 (by omega)
        rw [if_neg hb] at this; exact this
    · have hx := h3 n hn (by omega)
      rw [if_neg hb] at hx
      rw [p2 x c hx]
      exact h.2 x c (fun j h4 h5 => h3 j h4 (by omega))
theorem w_mv_one {s t : g_S} {k n c f : Nat} {b : Int32} (h : w_k_mv s k b n t) (hk : k < 3) (hn : w_k_us n) (hc : w_k_lc n = c) (hf : w_k_lf n = f) {R : Type} {K : Int32 → g_S → Option R} {Q : R → Prop}
    (hK : ∀ v u, (v = if b = 0 then s c f else s (561 + k) n) → w_k_mv s k b (n + 1) (g_w u c f v) → w_OK (K v u) Q) : w_OK (g_bd (f217 t (nI k) (nI n) (t c f) b) K) Q := by
  subst hc hf
  have h2 := w_k_us240 hn
  have hs := w_mv_src h hn
  have hl := (w_k_linv n h2 hn).2.1
  unfold f217
  by_cases hb : b = 0
  · rw [if_pos hb, if_pos ((w_k_inI (by omega)).2 hk), if_pos ((w_k_inI (by omega)).2 (by omega)), w_k_nat (by omega), w_k_nat (by omega), w_k_let, w_k_bd, w_k_wv, hs.1 hb]
    refine hK _ _ (by rw [if_pos hb]) (w_mv_step h hn (fun _ => ⟨?_, fun x c hx => ?_⟩) (fun e => absurd hb e))
    · rw [w_k_wq (by omega), w_k_wv]
    · by_cases e : x = w_k_lc n ∧ c = w_k_lf n
      · rw [e.1, e.2, w_k_wv, hs.1 hb]
      · rw [w_k_wq e, w_k_wq hx]
  · rw [if_neg hb, if_pos ((w_k_inI (by omega)).2 hk), if_pos ((w_k_inI (by omega)).2 (by omega)), w_k_nat (by omega), w_k_nat (by omega), w_k_bd, hs.2 hb]
    refine hK _ _ (by rw [if_neg hb]) (w_mv_step h hn (fun e => absurd e hb) (fun _ => ⟨w_k_wv, fun x c hx => w_k_wq hx⟩))
theorem w_k_mul (a b : Nat) : nI a * nI b = nI (a * b) := (Int32.ofNat_mul a b).symm
theorem w_k_i2 (a b x y : Nat) : nI a + nI b * nI x + nI y = nI (a + b * x + y) := by rw [w_k_mul, w_k_add, w_k_add]
theorem w_k_i1' (a b x : Nat) : nI a + nI b * nI x = nI (a + b * x) := by rw [w_k_mul, w_k_add]
theorem w_ok_st {S R : Type} {x : Option (S ⊕ R)} {k : S → Option R} {P : S ⊕ R → Prop} {Q : R → Prop} (h : w_OK x P) (h1 : ∀ s, P (.inl s) → w_OK (k s) Q) (h2 : ∀ r, P (.inr r) → Q r) : w_OK (g_st x k) Q := by
  obtain ⟨w, rfl, hw⟩ := h
  cases w with
  | inl s => exact h1 s hw
  | inr r => exact w_ok_some (h2 r hw)
section MV
variable {s : g_S} {k : Nat} {b : Int32}
theorem w_e226 (hk : k < 3) {p : Nat} (hp : p < 20) : ∀ d i t, i + d = 2 → w_k_mv s k b (200 + 2 * p + i) t → w_OK (f218_226L t (nI k) b (nI p) (nI i)) (fun w => ∃ u, w = .inl (nI (p + 1), u) ∧ w_k_mv s k b (200 + 2 * (p + 1)) u)
  | 0, i, t, e, h => by
    have e' : i = 2 := by omega
    subst e'
    rw [f218_226L_eq]; unfold f218_226
    rw [if_neg (by decide), w_k_s1]
    exact w_ok_some ⟨t, rfl, h⟩
  | d + 1, i, t, e, h => by
    rw [f218_226L_eq]; unfold f218_226
    rw [if_pos (show nI i < 2 from (w_k_lt (b := 2) (by omega) (by omega)).2 (by omega)), if_pos ((w_k_inI (by omega)).2 hp), if_pos ((w_k_inI (by omega)).2 (by omega)), w_k_nat (by omega), w_k_nat (by omega), w_k_s1, show (200 + 2 * nI p + nI i : Int32) = nI (200 + 2 * p + i) from w_k_i2 200 2 p i]
    refine w_ok_st (w_mv_one (c := 540 + p) (f := i) (Q := fun w => ∃ u, w = .inl (nI (i + 1), u) ∧ w_k_mv s k b (200 + 2 * p + (i + 1)) u) h hk (by unfold w_k_us; omega) (w_k_lp p hp i (by omega)).1 (w_k_lp p hp i (by omega)).2 (fun v u _ hu => w_ok_some ⟨_, rfl, hu⟩)) (fun S hS => ?_) (fun r hr => ?_)
    · obtain ⟨u, hu, h2⟩ := hS
      cases hu
      exact w_e226 hk hp d (i + 1) u (by omega) h2
    · obtain ⟨u, hu, _⟩ := hr; cases hu
theorem w_e221 (hk : k < 3) : ∀ d p t, p + d = 20 → w_k_mv s k b (200 + 2 * p) t → w_OK (f218_221L t (nI k) b (nI p)) (w_k_mv s k b 240)
  | 0, p, t, e, h => by
    have e' : p = 20 := by omega
    subst e'
    rw [f218_221L_eq]; unfold f218_221
    rw [if_neg (by decide)]
    exact w_ok_some h
  | d + 1, p, t, e, h => by
    rw [f218_221L_eq]; unfold f218_221
    rw [if_pos (show nI p < 20 from (w_k_lt (b := 20) (by omega) (by omega)).2 (by omega))]
    refine w_ok_st (w_e226 hk (by omega) 2 0 t (by omega) h) (fun S hS => ?_) (fun r hr => ?_)
    · obtain ⟨u, hu, h2⟩ := hS
      cases hu
      exact w_e221 hk d (p + 1) u (by omega) h2
    · obtain ⟨u, hu, _⟩ := hr; cases hu
theorem w_e189 (hk : k < 3) {q : Nat} (hq : q < 8) : ∀ d i t, i + d = 3 → w_k_mv s k b (170 + 3 * q + i) t → w_OK (f218_189L t (nI k) b (nI q) (nI i)) (fun w => ∃ u, w = .inl (nI (q + 1), u) ∧ w_k_mv s k b (170 + 3 * (q + 1)) u)
  | 0, i, t, e, h => by
    have e' : i = 3 := by omega
    subst e'
    rw [f218_189L_eq]; unfold f218_189
    rw [if_neg (by decide), w_k_s1]
    exact w_ok_some ⟨t, rfl, h⟩
  | d + 1, i, t, e, h => by
    rw [f218_189L_eq]; unfold f218_189
    rw [if_pos (show nI i < 3 from (w_k_lt (b := 3) (by omega) (by omega)).2 (by omega)), if_pos ((w_k_inI (by omega)).2 hq), if_pos ((w_k_inI (by omega)).2 (by omega)), w_k_nat (by omega), w_k_nat (by omega), w_k_s1, show (170 + 3 * nI q + nI i : Int32) = nI (170 + 3 * q + i) from w_k_i2 170 3 q i]
    refine w_ok_st (w_mv_one (c := 260 + q) (f := i) (Q := fun w => ∃ u, w = .inl (nI (i + 1), u) ∧ w_k_mv s k b (170 + 3 * q + (i + 1)) u) h hk (by unfold w_k_us; omega) (w_k_lq q hq i (by omega)).1 (w_k_lq q hq i (by omega)).2 (fun v u _ hu => w_ok_some ⟨_, rfl, hu⟩)) (fun S hS => ?_) (fun r hr => ?_)
    · obtain ⟨u, hu, h2⟩ := hS
      cases hu
      exact w_e189 hk hq d (i + 1) u (by omega) h2
    · obtain ⟨u, hu, _⟩ := hr; cases hu
theorem w_e184 (hk : k < 3) : ∀ d q t, q + d = 8 → w_k_mv s k b (170 + 3 * q) t → w_OK (f218_184L t (nI k) b (nI q)) (w_k_mv s k b 240)
  | 0, q, t, e, h => by
    have e' : q = 8 := by omega
    subst e'
    rw [f218_184L_eq]; unfold f218_184
    rw [if_neg (by decide)]
    obtain ⟨u, hu, h2⟩ := w_e221 hk 20 0 t (by omega) (w_mv_skip h (by omega) (fun j h1 h2 h3 => by unfold w_k_us at h3; omega))
    rw [show (0 : Int32) = nI 0 from rfl, hu]
    exact w_ok_some h2
  | d + 1, q, t, e, h => by
    rw [f218_184L_eq]; unfold f218_184
    rw [if_pos (show nI q < 8 from (w_k_lt (b := 8) (by omega) (by omega)).2 (by omega))]
    refine w_ok_st (w_e189 hk (by omega) 3 0 t (by omega) h) (fun S hS => ?_) (fun r hr => ?_)
    · obtain ⟨u, hu, h2⟩ := hS
      cases hu
      exact w_e184 hk d (q + 1) u (by omega) h2
    · obtain ⟨u, hu, _⟩ := hr; cases hu
theorem w_e143 (hk : k < 3) {h : Nat} (hh : h < 13) (hs : ∀ f, f < 4 → (b = 0 → m_isb (s (225 + h) f) = true) ∧ (b ≠ 0 → m_isb (s (561 + k) (17 + 12 * h + f)) = true)) : ∀ d i t, i + d = 4 → w_k_mv s k b (17 + 12 * h + i) t → w_OK (f218_143L t (nI k) b (nI h) (nI i)) (fun w => ∃ u, w = .inl (nI (h + 1), u) ∧ w_k_mv s k b (10 + 12 * (h + 1)) u)
  | 0, i, t, e, H => by
    have e' : i = 4 := by omega
    subst e'
    rw [f218_143L_eq]; unfold f218_143
    rw [if_neg (by decide), w_k_s1]
    exact w_ok_some ⟨t, rfl, w_mv_skip H (by omega) (fun j h1 h2 h3 => by unfold w_k_us at h3; omega)⟩
  | d + 1, i, t, e, H => by
    have hu : w_k_us (17 + 12 * h + i) := by unfold w_k_us; omega
    have hc := ((w_k_lh h hh).2.2.2 i (by omega)).1
    have hf := ((w_k_lh h hh).2.2.2 i (by omega)).2
    have hsrc := w_mv_src H hu
    rw [hc, hf] at hsrc
    rw [f218_143L_eq]; unfold f218_143
    rw [if_pos (show nI i < 4 from (w_k_lt (b := 4) (by omega) (by omega)).2 (by omega)), if_pos ((w_k_inI (by omega)).2 hh), if_pos ((w_k_inI (by omega)).2 (by omega)), w_k_nat (by omega), w_k_nat (by omega), show (17 + 12 * nI h + nI i : Int32) = nI (17 + 12 * h + i) from w_k_i2 17 12 h i]
    have key : ∀ v, (b = 0 → v = t (225 + h) i) → m_isb v = true → w_OK (f218_170 t (nI k) b (nI h) (nI i) (225 + h) (nI i) (nI k) (nI (17 + 12 * h + i)) v) (fun w => ∃ u, w = .inl (nI (i + 1), u) ∧ w_k_mv s k b (17 + 12 * h + (i + 1)) u) := by
      intro v hv hvb
      unfold f218_170 f217
      have h77 : ∀ w u x, m_isb x = true → (if x = 1 then f218_177 u (nI k) b (nI h) (nI i) (225 + h) (nI i) 1 else f218_177 u (nI k) b (nI h) (nI i) (225 + h) (nI i) 0) = some (.inl (nI (i + 1), g_w u (225 + h) i x)) ∨ w = (0 : Int32) := by
        intro w u x hx
        left
        unfold f218_177
        rw [if_pos ((w_k_inI (by omega)).2 (by omega)), if_pos ((w_k_inI (by omega)).2 (by omega)), if_pos w_k_b0, if_pos w_k_b1, w_k_nat (by omega), w_k_let, w_k_let, w_k_s1]
        rcases w_k_isb hx with rfl | rfl
        · rw [if_neg (by decide)]
        · rw [if_pos rfl]
      by_cases hb : b = 0
      · rw [if_pos hb, if_pos ((w_k_inI (by omega)).2 hk), if_pos ((w_k_inI (by omega)).2 (by omega)), w_k_nat (by omega), w_k_nat (by omega), w_k_let, w_k_bd, w_k_wv]
        rw [(h77 1 _ v hvb).elim id (fun e => absurd e w_k_01)]
        refine w_ok_some ⟨_, rfl, w_mv_step (n := 17 + 12 * h + i) H hu (fun _ => ⟨?_, fun x c hx => ?_⟩) (fun e => absurd hb e)⟩
        · rw [w_k_wq (by omega), w_k_wv, hc, hf, hv hb, hsrc.1 hb]
        · by_cases e : x = 225 + h ∧ c = i
          · rw [e.1, e.2, w_k_wv, hv hb]
          · rw [w_k_wq e, w_k_wq hx]
      · rw [if_neg hb, if_pos ((w_k_inI (by omega)).2 hk), if_pos ((w_k_inI (by omega)).2 (by omega)), w_k_nat (by omega), w_k_nat (by omega), w_k_bd, hsrc.2 hb]
        rw [(h77 1 _ _ ((hs i (by omega)).2 hb)).elim id (fun e => absurd e w_k_01)]
        refine w_ok_some ⟨_, rfl, w_mv_step (n := 17 + 12 * h + i) H hu (fun e => absurd e hb) (fun _ => ⟨?_, fun x c hx => ?_⟩)⟩
        · rw [hc, hf, w_k_wv]
        · rw [hc, hf] at hx; exact w_k_wq hx
    have body : w_OK (if t (225 + h) i = 0 then f218_170 t (nI k) b (nI h) (nI i) (225 + h) (nI i) (nI k) (nI (17 + 12 * h + i)) 0 else f218_170 t (nI k) b (nI h) (nI i) (225 + h) (nI i) (nI k) (nI (17 + 12 * h + i)) 1) (fun w => ∃ u, w = .inl (nI (i + 1), u) ∧ w_k_mv s k b (17 + 12 * h + (i + 1)) u) := by
      by_cases hz : t (225 + h) i = 0
      · rw [if_pos hz]; exact key 0 (fun _ => hz.symm) w_k_b0
      · rw [if_neg hz]
        refine key 1 (fun hb => ?_) w_k_b1
        have := (hs i (by omega)).1 hb
        rw [← hsrc.1 hb] at this
        rcases w_k_isb this with e | e
        · exact absurd e hz
        · exact e.symm
    refine w_ok_st body (fun S hS => ?_) (fun r hr => ?_)
    · obtain ⟨u, hu, h2⟩ := hS
      cases hu
      exact w_e143 hk hh hs d (i + 1) u (by omega) h2
    · obtain ⟨u, hu, _⟩ := hr; cases hu
theorem w_e79 (hk : k < 3) {h : Nat} (hh : h < 13) (hs : ∀ f, f < 4 → (b = 0 → m_isb (s (225 + h) f) = true) ∧ (b ≠ 0 → m_isb (s (561 + k) (17 + 12 * h + f)) = true)) : ∀ d i t, i + d = 5 → w_k_mv s k b (10 + 12 * h + i) t → w_OK (f218_79L t (nI k) b (nI h) (nI i)) (fun w => ∃ u, w = .inl (nI (h + 1), u) ∧ w_k_mv s k b (10 + 12 * (h + 1)) u)
  | 0, i, t, e, H => by
    have e' : i = 5 := by omega
    subst e'
    rw [f218_79L_eq]; unfold f218_79
    rw [if_neg (by decide)]
    unfold f218_107
    rw [if_pos ((w_k_inI (by omega)).2 hh), w_k_nat (by omega), show (15 + 12 * nI h : Int32) = nI (15 + 12 * h) from w_k_i1' 15 12 h, show (16 + 12 * nI h : Int32) = nI (16 + 12 * h) from w_k_i1' 16 12 h]
    refine w_ok_st (P := fun w => ∃ u, w = .inr (.inl (nI (h + 1), u)) ∧ w_k_mv s k b (10 + 12 * (h + 1)) u) (w_ok_map (w_mv_one (c := 222) (f := h) (by rw [show 15 + 12 * h = 10 + 12 * h + 5 by omega]; exact H) hk (by unfold w_k_us; omega) (w_k_lh h hh).2.1.1 (w_k_lh h hh).2.1.2 (fun v u _ hu => w_ok_let ?_))) (fun S hS => ?_) (fun r hr => ?_)
    · refine w_mv_one (c := 223) (f := h) (n := 16 + 12 * h) (by rw [show 16 + 12 * h = 15 + 12 * h + 1 by omega]; exact hu) hk (by unfold w_k_us; omega) (w_k_lh h hh).2.2.1.1 (w_k_lh h hh).2.2.1.2 (fun v u _ hu => w_ok_let ?_)
      refine w_ok_mono (w_e143 hk hh hs 4 0 _ (by omega) (by rw [show 17 + 12 * h + 0 = 16 + 12 * h + 1 by omega]; exact hu)) (fun w hw => ?_)
      obtain ⟨u, h1, h2⟩ := hw
      exact ⟨u, by rw [h1], h2⟩
    · obtain ⟨u, hu, _⟩ := hS; cases hu
    · obtain ⟨u, hu, h2⟩ := hr; cases hu; exact ⟨u, rfl, h2⟩
  | d + 1, i, t, e, H => by
    rw [f218_79L_eq]; unfold f218_79
    rw [if_pos (show nI i < 5 from (w_k_lt (b := 5) (by omega) (by omega)).2 (by omega)), if_pos ((w_k_inI (by omega)).2 hh), if_pos ((w_k_inI (by omega)).2 (by omega)), w_k_nat (by omega), w_k_nat (by omega), w_k_s1, show (10 + 12 * nI h + nI i : Int32) = nI (10 + 12 * h + i) from w_k_i2 10 12 h i]
    refine w_ok_st (w_mv_one (c := 209 + h) (f := i) (Q := fun w => ∃ u, w = .inl (nI (i + 1), u) ∧ w_k_mv s k b (10 + 12 * h + (i + 1)) u) H hk (by unfold w_k_us; omega) ((w_k_lh h hh).1 i (by omega)).1 ((w_k_lh h hh).1 i (by omega)).2 (fun v u _ hu => w_ok_some ⟨_, rfl, hu⟩)) (fun S hS => ?_) (fun r hr => ?_)
    · obtain ⟨u, hu, h2⟩ := hS
      cases hu
      exact w_e79 hk hh hs d (i + 1) u (by omega) h2
    · obtain ⟨u, hu, _⟩ := hr; cases hu
theorem w_e74 (hk : k < 3) (hs : ∀ h f, h < 13 → f < 4 → (b = 0 → m_isb (s (225 + h) f) = true) ∧ (b ≠ 0 → m_isb (s (561 + k) (17 + 12 * h + f)) = true)) : ∀ d h t, h + d = 13 → w_k_mv s k b (10 + 12 * h) t → w_OK (f218_74L t (nI k) b (nI h)) (w_k_mv s k b 240)
  | 0, h, t, e, H => by
    have e' : h = 13 := by omega
    subst e'
    rw [f218_74L_eq]; unfold f218_74
    rw [if_neg (by decide)]
    obtain ⟨u, hu, h2⟩ := w_e184 hk 8 0 t (by omega) (w_mv_skip H (by omega) (fun j h1 h2 h3 => by unfold w_k_us at h3; omega))
    rw [show (0 : Int32) = nI 0 from rfl, hu]
    exact w_ok_some h2
  | d + 1, h, t, e, H => by
    rw [f218_74L_eq]; unfold f218_74
    rw [if_pos (show nI h < 13 from (w_k_lt (b := 13) (by omega) (by omega)).2 (by omega))]
    refine w_ok_st (w_e79 hk (by omega) (fun f hf => hs h f (by omega) hf) 5 0 t (by omega) H) (fun S hS => ?_) (fun r hr => ?_)
    · obtain ⟨u, hu, h2⟩ := hS
      cases hu
      exact w_e74 hk hs d (h + 1) u (by omega) h2
    · obtain ⟨u, hu, _⟩ := hr; cases hu
theorem w_e218 (hk : k < 3) (hs : ∀ h f, h < 13 → f < 4 → (b = 0 → m_isb (s (225 + h) f) = true) ∧ (b ≠ 0 → m_isb (s (561 + k) (17 + 12 * h + f)) = true)) {t : g_S} (h0 : w_k_mv s k b 0 t) : w_OK (f218 t (nI k) b) (w_k_mv s k b 240) := by
  unfold f218
  refine w_mv_one (n := 0) h0 hk (by decide) rfl rfl (fun v u _ hu => w_ok_let ?_)
  refine w_mv_one (n := 1) hu hk (by decide) rfl rfl (fun v u _ hu => w_ok_let ?_)
  refine w_mv_one (n := 2) hu hk (by decide) rfl rfl (fun v u _ hu => w_ok_let ?_)
  refine w_mv_one (n := 3) hu hk (by decide) rfl rfl (fun v u _ hu => w_ok_let ?_)
  refine w_mv_one (n := 4) hu hk (by decide) rfl rfl (fun v u _ hu => w_ok_let ?_)
  refine w_mv_one (n := 5) hu hk (by decide) rfl rfl (fun v u _ hu => w_ok_let ?_)
  refine w_mv_one (n := 6) hu hk (by decide) rfl rfl (fun v u _ hu => w_ok_let ?_)
  refine w_mv_one (n := 7) hu hk (by decide) rfl rfl (fun v u _ hu => w_ok_let ?_)
  exact w_e74 hk hs 13 0 _ (by omega) (w_mv_skip hu (by omega) (fun j h1 h2 h3 => by unfold w_k_us at h3; omega))
end MV
/-! image, restore -/
def w_a_image (A : w_k_A) : Int32 × w_k_A := if A.2.2.2.2.length = 3 then (-1, A) else (nI (A.2.2.2.2.length + 1), (A.1, (A.2.1, (A.2.2.1, (A.2.2.2.1, A.2.2.2.1 :: A.2.2.2.2)))))
def w_a_rest (A : w_k_A) : Int32 × w_k_A := match A.2.2.2.2 with
  | [] => (-1, A)
  | V :: r => (nI r.length, (A.1, (A.2.1, (A.2.2.1, (V, r)))))
theorem w_v_image {A : w_k_A} (hA : w_k_Aok A) : w_k_Aok (w_a_image A).2 := by
  unfold w_a_image; split
  · exact hA
  · rename_i h
    obtain ⟨a1, a2, a3, a4, a5, a6⟩ := hA
    refine ⟨a1, a2, a3, a4, ?_, fun V hV => ?_⟩
    · show A.2.2.2.2.length + 1 ≤ 3; omega
    · rcases List.mem_cons.1 hV with e | e
      · rw [e]; exact a4
      · exact a6 V e
theorem w_v_rest {A : w_k_A} (hA : w_k_Aok A) : w_k_Aok (w_a_rest A).2 := by
  obtain ⟨a1, a2, a3, a4, a5, a6⟩ := hA
  unfold w_a_rest
  cases hl : A.2.2.2.2 with
  | nil => exact ⟨a1, a2, a3, a4, a5, a6⟩
  | cons V r =>
    rw [hl] at a5 a6
    exact ⟨a1, a2, a3, a6 V (List.mem_cons_self ..), by have h : r.length + 1 ≤ 3 := a5; show r.length ≤ 3; omega, fun W hW => a6 W (List.mem_cons_of_mem _ hW)⟩
theorem w_k_rev {A : Type} {l : List A} {x y : A} {m : Nat} (h : (x :: l).reverse[m]? = some y) : (m = l.length ∧ y = x) ∨ (m < l.length ∧ l.reverse[m]? = some y) := by
  rw [List.reverse_cons, List.getElem?_append] at h
  split at h
  · rename_i h1; rw [List.length_reverse] at h1; exact Or.inr ⟨h1, h⟩
  · rename_i h1; rw [List.length_reverse] at h1 h
    have h2 : m - l.length = 0 := by
      have := w_k_lt_of h; simp at this; omega
    rw [h2] at h
    cases h
    exact Or.inl ⟨by omega, rfl⟩
theorem w_k_rev2 {A : Type} {l : List A} {x y : A} {m : Nat} (hm : m < l.length) (h : l.reverse[m]? = some y) : (x :: l).reverse[m]? = some y := by
  rw [List.reverse_cons, List.getElem?_append_left (by rw [List.length_reverse]; exact hm)]; exact h
theorem w_k_rev3 {A : Type} {l : List A} {x : A} : (x :: l).reverse[l.length]? = some x := by
  rw [List.reverse_cons, List.getElem?_append_right (by rw [List.length_reverse]; exact Nat.le_refl _), List.length_reverse, Nat.sub_self]; rfl
theorem w_c_image {s : g_S} {A : w_k_A} (hA : w_k_Aok A) (H : w_k_CI s A) : w_k_cov s (f113 s) (w_a_image A).1 (w_a_image A).2 := by
  have hl := hA.2.2.2.2.1
  unfold f113 w_a_image
  rw [H.1.2.2.2]
  by_cases h3 : A.2.2.2.2.length = 3
  · rw [if_pos h3, h3, if_neg (by decide)]
    exact w_ok_some ⟨rfl, H, fun _ _ => rfl⟩
  · rw [if_neg h3, if_pos (show nI A.2.2.2.2.length < 3 from (w_k_lt (b := 3) (by omega) (by omega)).2 (by omega)), if_pos ((w_k_inI (by omega)).2 (by omega)), w_k_nat (by omega)]
    obtain ⟨u, q1, q2, q3⟩ := w_e1 (c0 := 118 + 27 * A.2.2.2.2.length) H.2.2.2.2.1 hA.2.2.2.1 (by omega)
    rw [q1, w_k_bs, w_k_let, q3 0 (by omega), H.1.2.2.2, w_k_s1]
    have hb := w_k_Vb hA.2.2.2.1
    obtain ⟨b1, b2, b3, b4, b5, b6⟩ := H
    have e : ∀ x, x ≠ 0 → (x < 118 + 27 * A.2.2.2.2.length ∨ 118 + 27 * A.2.2.2.2.length + 27 ≤ x) → g_w u 0 11 (nI (A.2.2.2.2.length + 1)) x = s x := fun x h1 h2 => by rw [w_k_wn h1, q3 x h2]
    refine w_ok_some ⟨by dsimp only; exact w_k_wv, ⟨⟨?_, ?_, ?_, ?_⟩, fun j hj => ?_, ?_, fun l L hL => ?_, ?_, fun m V hm => ?_⟩, fun y hy => ?_⟩
    · dsimp only; rw [w_k_wq (by omega), q3 0 (by omega)]; exact b1.1
    · dsimp only; rw [w_k_wq (by omega), q3 0 (by omega)]; exact b1.2.1
    · dsimp only; rw [w_k_wq (by omega), q3 0 (by omega)]; exact b1.2.2.1
    · dsimp only; rw [w_k_wv]; rfl
    · dsimp only; rw [e 1 (by omega) (by omega)]; exact b2 j hj
    · exact w_k_LR_cg (fun x h1 h2 => e x (by omega) (by omega)) b3
    · have := hA.2.2.1
      have := w_k_lt_of hL
      have h4 : l < A.2.2.1.length := this
      exact w_k_LR_cg (fun x h1 h2 => e x (by omega) (by omega)) (b4 l L hL)
    · exact w_k_CV_cg b5 hb.1 hb.2.1 (fun x h1 h2 => e x (by omega) (by omega))
    · rcases w_k_rev hm with ⟨h1, h2⟩ | ⟨h1, h2⟩
      · subst h1 h2
        exact w_k_CV_cg q2 hb.1 hb.2.1 (fun x h1 h2 => w_k_wn (by omega))
      · have hbv := w_k_Vb (hA.2.2.2.2.2 V (List.mem_reverse.1 (List.mem_of_getElem? h2)))
        exact w_k_CV_cg (b6 m V h2) hbv.1 hbv.2.1 (fun x h1 h2 => e x (by omega) (by omega))
    · exact e y (by omega) (by omega)
theorem w_c_rest {s : g_S} {A : w_k_A} (hA : w_k_Aok A) (H : w_k_CI s A) : w_k_cov s (f114 s) (w_a_rest A).1 (w_a_rest A).2 := by
  have hl := hA.2.2.2.2.1
  unfold f114 w_a_rest
  rw [H.1.2.2.2]
  cases hI : A.2.2.2.2 with
  | nil =>
    rw [if_pos (show nI ([] : List w_k_V).length < 1 from by decide)]
    exact w_ok_some ⟨rfl, H, fun _ _ => rfl⟩
  | cons V r =>
    have hr : r.length + 1 ≤ 3 := by rw [hI] at hl; exact hl
    have hVk : w_k_Vok A.2.2.1.length V := hA.2.2.2.2.2 V (by rw [hI]; exact List.mem_cons_self ..)
    have hb := w_k_Vb hVk
    rw [show (V :: r).length = r.length + 1 from rfl, if_neg (show ¬ nI (r.length + 1) < 1 from w_k_nlt (b := 1) (by omega) (by omega) (by omega)), w_k_let, w_k_m1, w_k_wv, if_pos ((w_k_inI (by omega)).2 (by omega)), w_k_nat (by omega)]
    obtain ⟨b1, b2, b3, b4, b5, b6⟩ := H
    rw [hI] at b6
    obtain ⟨u, q1, q2, q3⟩ := w_e1 (s := g_w s 0 11 (nI r.length)) (c0 := 22) (c1 := 118 + 27 * r.length) (w_k_CV_cg (b6 r.length V w_k_rev3) hb.1 hb.2.1 (fun x h1 h2 => w_k_wn (by omega))) hVk (by omega)
    rw [q1, w_k_bs]
    have e : ∀ x, x ≠ 0 → (x < 22 ∨ 22 + 27 ≤ x) → u x = s x := fun x h1 h2 => by rw [q3 x h2, w_k_wn h1]
    refine w_ok_some ⟨?_, ⟨⟨?_, ?_, ?_, ?_⟩, fun j hj => ?_, ?_, fun l L hL => ?_, q2, fun m W hm => ?_⟩, fun y hy => ?_⟩
    · dsimp only; rw [q3 0 (by omega)]; exact w_k_wv
    · dsimp only; rw [q3 0 (by omega), w_k_wq (by omega)]; exact b1.1
    · dsimp only; rw [q3 0 (by omega), w_k_wq (by omega)]; exact b1.2.1
    · dsimp only; rw [q3 0 (by omega), w_k_wq (by omega)]; exact b1.2.2.1
    · dsimp only; rw [q3 0 (by omega)]; exact w_k_wv
    · dsimp only; rw [e 1 (by omega) (by omega)]; exact b2 j hj
    · exact w_k_LR_cg (fun x h1 h2 => e x (by omega) (by omega)) b3
    · exact w_k_LR_cg (fun x h1 h2 => e x (by omega) (by omega)) (b4 l L hL)
    · have hm2 := w_k_lt_of hm
      rw [List.length_reverse] at hm2
      have hm3 : m < r.length := hm2
      have h2 := b6 m W (w_k_rev2 hm3 hm)
      have hbv := w_k_Vb (hA.2.2.2.2.2 W (by rw [hI]; exact List.mem_cons_of_mem _ (List.mem_reverse.1 (List.mem_of_getElem? hm))))
      exact w_k_CV_cg h2 hbv.1 hbv.2.1 (fun x h1 h2 => e x (by omega) (by omega))
    · exact e y (by omega) (by omega)
theorem w_m_image {TR : w_k_TR} {s : g_S} {A : w_k_A} (hA : w_k_Aok A) (H : w_k_MI TR s A) : w_k_mov TR s (f219 s) (w_a_image A).1 (w_a_image A).2 := by
  have hl := hA.2.2.2.2.1
  unfold f219 w_a_image
  rw [w_k_let, w_k_0n (by omega), H.1.2.2.2]
  by_cases h3 : A.2.2.2.2.length = 3
  · rw [if_pos h3, h3, if_pos (by rfl)]
    exact w_m_scr hA H (w_k_eM_w w_k_eM_rfl (by unfold w_k_sM; omega))
  · rw [if_neg h3, if_neg (show ¬ nI A.2.2.2.2.length = 3 from fun e => h3 ((w_k_eq (b := 3) (by omega) (by omega)).1 e))]
    obtain ⟨b1, b2, b3, b4, b5⟩ := H
    obtain ⟨u, q1, q2, q3⟩ := w_e218 (s := g_w s 199 0 0) (k := A.2.2.2.2.length) (b := 0) (by omega) (fun h f hh hf => ⟨fun _ => by rw [w_k_wn (by omega), b4.2.2.2.1 h f hh hf]; exact hA.2.2.2.1.2.2.2.2.2.2.2.2.1 h f hh hf, fun e => absurd rfl e⟩) w_mv_0
    rw [q1, w_k_bs, w_k_let]
    have e : ∀ x c, x ≠ 561 + A.2.2.2.2.length → ¬ (x = 199 ∧ c = 52) → ¬ (x = 199 ∧ c = 0) → g_w u 199 52 (u 199 52 + 1) x c = s x c := fun x c h1 h2 h3 => by
      rw [w_k_wq h2, q3 x c (fun j _ _ => by rw [if_pos rfl]; omega), w_k_wq h3]
    have e52 : u 199 52 + 1 = nI (A.2.2.2.2.length + 1) := by rw [q3 199 52 (fun j _ _ => by rw [if_pos rfl]; omega), w_k_wq (by omega), b1.2.2.2, w_k_s1]
    have eM : w_k_MV (g_w u 199 52 (u 199 52 + 1)) A.2.2.2.1 := by
      refine w_k_MV_mk b4 (fun _ _ => rfl) (fun x h1 h2 => funext fun c => e x c (by omega) (by omega) (by omega)) ?_
      rw [e 199 26 (by omega) (by omega) (by omega), e 199 27 (by omega) (by omega) (by omega), e 199 28 (by omega) (by omega) (by omega), e 199 29 (by omega) (by omega) (by omega), e 199 13 (by omega) (by omega) (by omega), e 199 43 (by omega) (by omega) (by omega), e 199 49 (by omega) (by omega) (by omega), e 199 50 (by omega) (by omega) (by omega)]
      exact b4.1
    have hMl := w_k_MVl.1 b4
    refine w_ok_some ⟨⟨⟨?_, ?_, ?_, ?_⟩, fun j hj => ?_, fun l L hL => ?_, eM, fun m V hm => ?_⟩, fun y hy => funext fun c => e y c (by omega) (by omega) (by omega), ?_⟩
    · dsimp only; rw [e 199 1 (by omega) (by omega) (by omega)]; exact b1.1
    · dsimp only; rw [e 199 12 (by omega) (by omega) (by omega)]; exact b1.2.1
    · dsimp only; rw [e 199 3 (by omega) (by omega) (by omega)]; exact b1.2.2.1
    · dsimp only; rw [w_k_wv, e52]; rfl
    · dsimp only; rw [e 200 j (by omega) (by omega) (by omega)]; exact b2 j hj
    · have hl4 : l < A.2.2.1.length := w_k_lt_of hL
      have := hA.2.2.1
      obtain ⟨n, h1, h2, h3⟩ := b3 l L hL
      refine ⟨n, h1, ?_, ?_⟩
      · dsimp only; rw [e 206 l (by omega) (by omega) (by omega)]; exact h2
      · dsimp only; rw [show g_w u 199 52 (u 199 52 + 1) (202 + l) = s (202 + l) from funext fun c => e _ c (by omega) (by omega) (by omega)]; exact h3
    · dsimp only
      intro j hj
      rcases w_k_rev hm with ⟨h1, h2⟩ | ⟨h1, h2⟩
      · subst h1 h2
        have := q2 j hj (w_k_us240 hj)
        rw [if_pos rfl] at this
        have hlc := w_k_linv j (w_k_us240 hj) hj
        rw [w_k_wn (by omega), this]
        rw [← hMl j hj]
        refine w_k_wq ?_
        intro h
        have hj0 : w_k_lf j = 0 ∧ w_k_lc j = 199 := ⟨h.2, h.1⟩
        have : ∀ j, j < 240 → w_k_us j → ¬ (w_k_lf j = 0 ∧ w_k_lc j = 199) := by decide +kernel
        exact this j (w_k_us240 hj) hj hj0
      · rw [e (561 + m) j (by omega) (by omega) (by omega)]; exact b5 m V h2 j hj
    · dsimp only; rw [w_k_wv, e52]
theorem w_m_rest {TR : w_k_TR} {s : g_S} {A : w_k_A} (hA : w_k_Aok A) (H : w_k_MI TR s A) : w_k_mov TR s (f220 s) (w_a_rest A).1 (w_a_rest A).2 := by
  have hl := hA.2.2.2.2.1
  unfold f220 w_a_rest
  rw [w_k_let, w_k_0n (by omega), H.1.2.2.2]
  cases hI : A.2.2.2.2 with
  | nil =>
    rw [if_pos (show nI ([] : List w_k_V).length = 0 from rfl)]
    exact w_m_scr hA H (w_k_eM_w w_k_eM_rfl (by unfold w_k_sM; omega))
  | cons V r =>
    have hr : r.length + 1 ≤ 3 := by rw [hI] at hl; exact hl
    have hVk : w_k_Vok A.2.2.1.length V := hA.2.2.2.2.2 V (by rw [hI]; exact List.mem_cons_self ..)
    rw [show (V :: r).length = r.length + 1 from rfl, if_neg (show ¬ nI (r.length + 1) = 0 from fun e => absurd ((w_k_eq (b := 0) (by omega) (by omega)).1 e) (by omega)), w_k_let, w_k_m1, w_k_wv]
    obtain ⟨b1, b2, b3, b4, b5⟩ := H
    rw [hI] at b5
    have hK := b5 r.length V w_k_rev3
    obtain ⟨u, q1, q2, q3⟩ := w_e218 (s := g_w (g_w s 199 0 0) 199 52 (nI r.length)) (k := r.length) (b := 1) (by omega) (fun h f hh hf => ⟨fun e => absurd e w_k_01, fun e => by rw [w_k_wn (by omega), w_k_wn (by omega), hK _ (by unfold w_k_us; omega)]; exact hVk.2.2.2.2.2.2.2.2.1 h f hh hf⟩) w_mv_0
    rw [q1, w_k_bs]
    have e : ∀ x c, (∀ j, w_k_us j → ¬ (x = w_k_lc j ∧ c = w_k_lf j)) → ¬ (x = 199 ∧ c = 52) → ¬ (x = 199 ∧ c = 0) → u x c = s x c := fun x c h1 h2 h3 => by
      rw [q3 x c (fun j hj _ => by rw [if_neg w_k_01]; exact h1 j hj), w_k_wq h2, w_k_wq h3]
    have nl : ∀ x c, (x < 199 ∨ (200 ≤ x ∧ x < 209) ∨ 560 ≤ x) → ∀ j, w_k_us j → ¬ (x = w_k_lc j ∧ c = w_k_lf j) := by
      intro x c hx j hj h
      have : ∀ j, j < 240 → w_k_us j → (w_k_lc j = 199 ∨ 209 ≤ w_k_lc j) ∧ w_k_lc j < 560 := by decide +kernel
      have := this j (w_k_us240 hj) hj
      omega
    have nf : ∀ c, (c = 1 ∨ c = 3 ∨ c = 12 ∨ c = 52) → ∀ j, w_k_us j → ¬ (199 = w_k_lc j ∧ c = w_k_lf j) := by
      intro c hc j hj h
      have : ∀ j, j < 240 → w_k_us j → w_k_lc j = 199 → ¬ (w_k_lf j = 1 ∨ w_k_lf j = 3 ∨ w_k_lf j = 12 ∨ w_k_lf j = 52) := by decide +kernel
      have := this j (w_k_us240 hj) hj h.1.symm
      omega
    have e52 : u 199 52 = nI r.length := by
      rw [q3 199 52 (fun j hj _ => by rw [if_neg w_k_01]; exact nf 52 (by omega) j hj), w_k_wv]
    have eM : w_k_MV u V := by
      refine w_k_MVl.2 (fun j hj => ?_)
      have := q2 j hj (w_k_us240 hj)
      rw [if_neg w_k_01, w_k_wn (by omega), w_k_wn (by omega), hK j hj] at this
      exact this
    refine w_ok_some ⟨⟨⟨?_, ?_, ?_, ?_⟩, fun j hj => ?_, fun l L hL => ?_, eM, fun m W hm => ?_⟩, fun y hy => funext fun c => e y c (nl y c (by omega)) (by omega) (by omega), ?_⟩
    · dsimp only; rw [e 199 1 (nf 1 (by omega)) (by omega) (by omega)]; exact b1.1
    · dsimp only; rw [e 199 12 (nf 12 (by omega)) (by omega) (by omega)]; exact b1.2.1
    · dsimp only; rw [e 199 3 (nf 3 (by omega)) (by omega) (by omega)]; exact b1.2.2.1
    · exact e52
    · dsimp only; rw [e 200 j (nl _ _ (by omega)) (by omega) (by omega)]; exact b2 j hj
    · have hl4 : l < A.2.2.1.length := w_k_lt_of hL
      have := hA.2.2.1
      obtain ⟨n, h1, h2, h3⟩ := b3 l L hL
      refine ⟨n, h1, ?_, ?_⟩
      · dsimp only; rw [e 206 l (nl _ _ (by omega)) (by omega) (by omega)]; exact h2
      · dsimp only; rw [show u (202 + l) = s (202 + l) from funext fun c => e _ c (nl _ _ (by omega)) (by omega) (by omega)]; exact h3
    · dsimp only
      intro j hj
      have hm2 := w_k_lt_of hm
      rw [List.length_reverse] at hm2
      have hm3 : m < r.length := hm2
      rw [e (561 + m) j (nl _ _ (by omega)) (by omega) (by omega)]; exact b5 m W (w_k_rev2 hm3 hm) j hj
    · exact e52
/-! feed -/
def w_k_byte (p : Int32) (i : Nat) : Int32 := (p >>> (nI (24 - 8 * (i % 4)) &&& 31)) &&& 255
def w_k_sel (a b c d e : Int32) (i : Nat) : Int32 := if i < 4 then a else if i < 8 then b else if i < 12 then c else if i < 16 then d else e
def w_k_fed (A : w_k_A) (a b c d e : Int32) : Nat → Int32 := fun j => if j < A.1.1 then A.1.2 j else w_k_byte (w_k_sel a b c d e (j - A.1.1)) (j - A.1.1)
def w_a_feed (A : w_k_A) (a b c d e : Int32) : Int32 × w_k_A := if 500 < A.1.1 + 20 then (-1, A) else (nI (A.1.1 + 20), ((A.1.1 + 20, w_k_fed A a b c d e), A.2))
theorem w_k_255 (x : Int32) : w_k_wi (x &&& 255) 0 255 := by
  have h1 : (x &&& 255).toInt = ((x.toBitVec &&& 255#32).toNat : Int) := by
    rw [← Int32.toInt_toBitVec, Int32.toBitVec_and]
    show (x.toBitVec &&& 255#32).toInt = _
    apply BitVec.toInt_eq_toNat_of_lt
    rw [BitVec.toNat_and]
    have := @Nat.and_le_right x.toBitVec.toNat (255#32).toNat
    have h2 : (255#32).toNat = 255 := rfl
    omega
  have h2 := @Nat.and_le_right x.toBitVec.toNat (255#32).toNat
  have h3 : (255#32).toNat = 255 := rfl
  have h4 : (255 : Int32).toInt = 255 := rfl
  have h5 : (0 : Int32).toInt = 0 := rfl
  rw [BitVec.toNat_and] at h1
  unfold w_k_wi
  rw [Int32.lt_iff_toInt_lt, Int32.lt_iff_toInt_lt, h1, h4, h5]
  omega
theorem w_v_feed {A : w_k_A} {a b c d e : Int32} (hA : w_k_Aok A) : w_k_Aok (w_a_feed A a b c d e).2 := by
  unfold w_a_feed; split
  · exact hA
  · refine ⟨by show A.1.1 + 20 ≤ 500; omega, fun j hj => ?_, hA.2.2⟩
    show w_k_wi (w_k_fed A a b c d e j) 0 255
    unfold w_k_fed; split
    · exact hA.2.1 j (by assumption)
    · exact w_k_255 _
theorem w_e121 {s : g_S} {p : Int32} {n : Nat} (h : s 0 1 = nI n) (hn : n + 4 ≤ 500) : ∃ u, f121 s p = some u ∧ u 0 1 = nI (n + 4) ∧ (∀ i, i < 4 → u 1 (n + i) = w_k_byte p i) ∧ ∀ x c, ¬ (x = 0 ∧ c = 1) → ¬ (x = 1 ∧ n ≤ c ∧ c < n + 4) → u x c = s x c := by
  have l : ∀ i, i < 4 → nI (n + i) < 500 := fun i hi => (w_k_lt (b := 500) (by omega) (by omega)).2 (by omega)
  have i : ∀ i, i < 4 → m_in (nI (n + i)) 500 = true := fun i hi => (w_k_inI (by omega)).2 (by omega)
  have m : ∀ i, i < 4 → (nI (n + i)).toNatClampNeg = n + i := fun i hi => w_k_nat (by omega)
  have l0 := l 0 (by omega)
  have l1 := l 1 (by omega)
  have l2 := l 2 (by omega)
  have l3 := l 3 (by omega)
  have i0 := i 0 (by omega)
  have i1 := i 1 (by omega)
  have i2 := i 2 (by omega)
  have i3 := i 3 (by omega)
  have m0 := m 0 (by omega)
  have m1 := m 1 (by omega)
  have m2 := m 2 (by omega)
  have m3 := m 3 (by omega)
  have z0 : ¬ (24 : Int32) < 0 := by decide
  have z1 : ¬ (24 + (-8) : Int32) < 0 := by decide
  have z2 : ¬ (24 + (-8) + (-8) : Int32) < 0 := by decide
  have z3 : ¬ (24 + (-8) + (-8) + (-8) : Int32) < 0 := by decide
  have z4 : (24 + (-8) + (-8) + (-8) + (-8) : Int32) < 0 := by decide
  rw [Nat.add_zero] at l0 i0 m0
  unfold f121
  rw [f121_2L_eq]; unfold f121_2
  simp (disch := omega) only [w_k_let, h, l0, i0, m0, z0, w_k_wq, w_k_wv, if_true, if_false, g_st, w_k_s1]
  rw [f121_2L_eq]; unfold f121_2
  simp (disch := omega) only [w_k_let, h, l1, i1, m1, z1, w_k_wq, w_k_wv, if_true, if_false, g_st, w_k_s1]
  rw [f121_2L_eq]; unfold f121_2
  simp (disch := omega) only [w_k_let, h, l2, i2, m2, z2, w_k_wq, w_k_wv, if_true, if_false, g_st, w_k_s1]
  rw [f121_2L_eq]; unfold f121_2
  simp (disch := omega) only [w_k_let, h, l3, i3, m3, z3, w_k_wq, w_k_wv, if_true, if_false, g_st, w_k_s1]
  rw [f121_2L_eq]; unfold f121_2
  simp (disch := omega) only [w_k_let, z4, if_true, g_st]
  refine ⟨_, rfl, w_k_wv, fun i hi => ?_, fun x c h1 h2 => ?_⟩
  · match i, hi with
    | 0, _ => simp (disch := omega) only [w_k_wq, w_k_wv, Nat.add_zero]; rfl
    | 1, _ => simp (disch := omega) only [w_k_wq, w_k_wv]; rfl
    | 2, _ => simp (disch := omega) only [w_k_wq, w_k_wv]; rfl
    | 3, _ => simp (disch := omega) only [w_k_wq, w_k_wv]; rfl
  · simp (disch := omega) only [w_k_wq]
theorem w_c_feed {s : g_S} {A : w_k_A} {a b c d e : Int32} (hA : w_k_Aok A) (H : w_k_CI s A) : w_k_cov s (f78 s a b c d e) (w_a_feed A a b c d e).1 (w_a_feed A a b c d e).2 := by
  have h500 := hA.1
  unfold f78 w_a_feed
  rw [H.1.1, show (nI A.1.1 + 20 : Int32) = nI (A.1.1 + 20) from w_k_add A.1.1 20]
  by_cases hl : 500 < A.1.1 + 20
  · rw [if_pos hl, if_pos (show (500 : Int32) < nI (A.1.1 + 20) from (w_k_lt (a := 500) (by omega) (by omega)).2 hl)]
    exact w_ok_some ⟨rfl, H, fun _ _ => rfl⟩
  · rw [if_neg hl, if_neg (show ¬ (500 : Int32) < nI (A.1.1 + 20) from w_k_nlt (a := 500) (by omega) (by omega) hl)]
    obtain ⟨u1, p1, p2, p3, p4⟩ := w_e121 (p := a) H.1.1 (by omega)
    obtain ⟨u2, q1, q2, q3, q4⟩ := w_e121 (p := b) p2 (by omega)
    obtain ⟨u3, r1, r2, r3, r4⟩ := w_e121 (p := c) q2 (by omega)
    obtain ⟨u4, s1, s2, s3, s4⟩ := w_e121 (p := d) r2 (by omega)
    obtain ⟨u5, t1, t2, t3, t4⟩ := w_e121 (p := e) s2 (by omega)
    rw [p1, w_k_bs, q1, w_k_bs, r1, w_k_bs, s1, w_k_bs, t1, w_k_bs, t2]
    have f : ∀ x c, ¬ (x = 0 ∧ c = 1) → ¬ (x = 1 ∧ A.1.1 ≤ c ∧ c < A.1.1 + 20) → u5 x c = s x c := fun x c h1 h2 => by
      rw [t4 x c h1 (by omega), s4 x c h1 (by omega), r4 x c h1 (by omega), q4 x c h1 (by omega), p4 x c h1 (by omega)]
    have g : ∀ i, i < 20 → u5 1 (A.1.1 + i) = w_k_byte (w_k_sel a b c d e i) i := by
      intro i hi
      unfold w_k_sel
      by_cases h4 : i < 4
      · rw [t4 _ _ (by omega) (by omega), s4 _ _ (by omega) (by omega), r4 _ _ (by omega) (by omega), q4 _ _ (by omega) (by omega), p3 i h4, if_pos h4]
      · rw [if_neg h4]
        by_cases h8 : i < 8
        · obtain ⟨k, rfl⟩ : ∃ k, i = 4 + k := ⟨i - 4, by omega⟩
          rw [t4 _ _ (by omega) (by omega), s4 _ _ (by omega) (by omega), r4 _ _ (by omega) (by omega), ← Nat.add_assoc, q3 k (by omega), if_pos h8]
          unfold w_k_byte; congr 4; omega
        · rw [if_neg h8]
          by_cases h12 : i < 12
          · obtain ⟨k, rfl⟩ : ∃ k, i = 4 + 4 + k := ⟨i - 8, by omega⟩
            rw [t4 _ _ (by omega) (by omega), s4 _ _ (by omega) (by omega), ← Nat.add_assoc, ← Nat.add_assoc, r3 k (by omega), if_pos h12]
            unfold w_k_byte; congr 4; omega
          · rw [if_neg h12]
            by_cases h16 : i < 16
            · obtain ⟨k, rfl⟩ : ∃ k, i = 4 + 4 + 4 + k := ⟨i - 12, by omega⟩
              rw [t4 _ _ (by omega) (by omega), ← Nat.add_assoc, ← Nat.add_assoc, ← Nat.add_assoc, s3 k (by omega), if_pos h16]
              unfold w_k_byte; congr 4; omega
            · rw [if_neg h16]
              obtain ⟨k, rfl⟩ : ∃ k, i = 4 + 4 + 4 + 4 + k := ⟨i - 16, by omega⟩
              rw [← Nat.add_assoc, ← Nat.add_assoc, ← Nat.add_assoc, ← Nat.add_assoc, t3 k (by omega)]
              unfold w_k_byte; congr 4; omega
    have hb := w_k_Vb hA.2.2.2.1
    have fr : ∀ x, x ≠ 0 → x ≠ 1 → u5 x = s x := fun x h0 h1 => funext fun c => f x c (by omega) (by omega)
    obtain ⟨b1, b2, b3, b4, b5, b6⟩ := H
    refine w_ok_some ⟨rfl, ⟨⟨t2, ?_, ?_, ?_⟩, fun j hj => ?_, ?_, fun l L hL => ?_, ?_, fun m V hm => ?_⟩, fun y hy => fr y (by omega) (by omega)⟩
    · dsimp only; rw [f 0 3 (by omega) (by omega)]; exact b1.2.1
    · dsimp only; rw [f 0 6 (by omega) (by omega)]; exact b1.2.2.1
    · dsimp only; rw [f 0 11 (by omega) (by omega)]; exact b1.2.2.2
    · dsimp only
      unfold w_k_fed
      by_cases hj2 : j < A.1.1
      · rw [if_pos hj2, f 1 j (by omega) (by omega)]; exact b2 j hj2
      · rw [if_neg hj2]
        have hj3 : j < A.1.1 + 20 := hj
        rw [← g (j - A.1.1) (by omega)]; congr 1; omega
    · exact w_k_LR_cg (fun x h1 h2 => fr x (by omega) (by omega)) b3
    · exact w_k_LR_cg (fun x h1 h2 => fr x (by omega) (by omega)) (b4 l L hL)
    · exact w_k_CV_cg b5 hb.1 hb.2.1 (fun x h1 h2 => fr x (by omega) (by omega))
    · have hbv := w_k_Vb (hA.2.2.2.2.2 V (List.mem_reverse.1 (List.mem_of_getElem? hm)))
      exact w_k_CV_cg (b6 m V hm) hbv.1 hbv.2.1 (fun x h1 h2 => fr x (by omega) (by omega))
theorem w_k_sh : ∀ i, i < 20 → (24 - (8 * (nI i - nI i / 4 * 4)) : Int32) = nI (24 - 8 * (i % 4)) := by decide +kernel
theorem w_e137 {s : g_S} {a b c d e : Int32} {n : Nat} (hn : n + 20 ≤ 500) : ∀ m i t, i + m = 20 → t 199 1 = nI (n + i) → (∀ j, j < i → t 200 (n + j) = w_k_byte (w_k_sel a b c d e j) j) → (∀ x y, ¬ (x = 199 ∧ y = 1) → ¬ (x = 200 ∧ n ≤ y ∧ y < n + i) → t x y = s x y) →
    ∃ u, f137_13L t a b c d e (nI i) = some (nI (n + 20), u) ∧ u 199 1 = nI (n + 20) ∧ (∀ j, j < 20 → u 200 (n + j) = w_k_byte (w_k_sel a b c d e j) j) ∧ (∀ x y, ¬ (x = 199 ∧ y = 1) → ¬ (x = 200 ∧ n ≤ y ∧ y < n + 20) → u x y = s x y)
  | 0, i, t, he, h1, h2, h3 => by
    have e' : i = 20 := by omega
    subst e'
    rw [f137_13L_eq]; unfold f137_13
    rw [if_neg (by decide), h1]
    exact ⟨t, rfl, h1, h2, h3⟩
  | m + 1, i, t, he, h1, h2, h3 => by
    rw [f137_13L_eq]; unfold f137_13
    have key : ∀ w, w = w_k_sel a b c d e i → ∃ u, g_st (f137_37 t a b c d e (nI i) w) (fun S => f137_13L S.2 a b c d e S.1) = some (nI (n + 20), u) ∧ u 199 1 = nI (n + 20) ∧ (∀ j, j < 20 → u 200 (n + j) = w_k_byte (w_k_sel a b c d e j) j) ∧ (∀ x y, ¬ (x = 199 ∧ y = 1) → ¬ (x = 200 ∧ n ≤ y ∧ y < n + 20) → u x y = s x y) := by
      intro w hw
      unfold f137_37
      rw [h1, if_pos ((w_k_inI (by omega)).2 (by omega)), w_k_nat (by omega), w_k_sh i (by omega), w_k_let, w_k_wn (by omega), h1, w_k_let, w_k_s1, w_k_s1]
      refine w_e137 hn m (i + 1) _ (by omega) (by dsimp only; rw [w_k_wv]; rfl) (fun j hj => ?_) (fun x y h4 h5 => ?_)
      · dsimp only; rw [w_k_wn (by omega)]
        by_cases e : j = i
        · subst e; rw [w_k_wv, hw]; rfl
        · rw [w_k_wq (by omega)]; exact h2 j (by omega)
      · dsimp only; rw [w_k_wq h4, w_k_wq (by omega)]; exact h3 x y h4 (by omega)
    have l : ∀ k, k < 100 → (nI i < nI k ↔ i < k) := fun k hk => w_k_lt (by omega) (by omega)
    rw [if_pos (show nI i < 20 from (l 20 (by omega)).2 (by omega))]
    by_cases h4 : i < 4
    · rw [if_pos (show nI i < 4 from (l 4 (by omega)).2 h4)]
      exact key a (by unfold w_k_sel; rw [if_pos h4])
    · rw [if_neg (show ¬ nI i < 4 from fun h => h4 ((l 4 (by omega)).1 h))]
      by_cases h8 : i < 8
      · rw [if_pos (show nI i < 8 from (l 8 (by omega)).2 h8)]
        exact key b (by unfold w_k_sel; rw [if_neg h4, if_pos h8])
      · rw [if_neg (show ¬ nI i < 8 from fun h => h8 ((l 8 (by omega)).1 h))]
        by_cases h12 : i < 12
        · rw [if_pos (show nI i < 12 from (l 12 (by omega)).2 h12)]
          exact key c (by unfold w_k_sel; rw [if_neg h4, if_neg h8, if_pos h12])
        · rw [if_neg (show ¬ nI i < 12 from fun h => h12 ((l 12 (by omega)).1 h))]
          by_cases h16 : i < 16
          · rw [if_pos (show nI i < 16 from (l 16 (by omega)).2 h16)]
            exact key d (by unfold w_k_sel; rw [if_neg h4, if_neg h8, if_neg h12, if_pos h16])
          · rw [if_neg (show ¬ nI i < 16 from fun h => h16 ((l 16 (by omega)).1 h))]
            exact key e (by unfold w_k_sel; rw [if_neg h4, if_neg h8, if_neg h12, if_neg h16])
theorem w_m_feed {TR : w_k_TR} {s : g_S} {A : w_k_A} {a b c d e : Int32} (hA : w_k_Aok A) (H : w_k_MI TR s A) : w_k_mov TR s (f137 s a b c d e) (w_a_feed A a b c d e).1 (w_a_feed A a b c d e).2 := by
  have h500 := hA.1
  unfold f137 w_a_feed
  rw [w_k_let, w_k_0n (by omega), H.1.1, show (nI A.1.1 + 20 : Int32) = nI (A.1.1 + 20) from w_k_add A.1.1 20]
  by_cases hl : 500 < A.1.1 + 20
  · rw [if_pos hl, if_pos (show (500 : Int32) < nI (A.1.1 + 20) from (w_k_lt (a := 500) (by omega) (by omega)).2 hl)]
    exact w_m_scr hA H (w_k_eM_w w_k_eM_rfl (by unfold w_k_sM; omega))
  · rw [if_neg hl, if_neg (show ¬ (500 : Int32) < nI (A.1.1 + 20) from w_k_nlt (a := 500) (by omega) (by omega) hl)]
    obtain ⟨u, p1, p2, p3, p4⟩ := w_e137 (s := g_w s 199 0 0) (a := a) (b := b) (c := c) (d := d) (e := e) (n := A.1.1) (by omega) 20 0 _ (by omega) (by rw [w_k_0n (by omega)]; exact H.1.1) (fun j hj => absurd hj (by omega)) (fun _ _ _ _ => rfl)
    rw [show f137_13L (g_w s 199 0 0) a b c d e 0 = _ from p1]
    have f : ∀ x c, ¬ (x = 199 ∧ c = 1) → ¬ (x = 200 ∧ A.1.1 ≤ c ∧ c < A.1.1 + 20) → ¬ (x = 199 ∧ c = 0) → u x c = s x c := fun x c h1 h2 h3 => by
      rw [p4 x c h1 h2, w_k_wq h3]
    have fr : ∀ x, x ≠ 199 → x ≠ 200 → u x = s x := fun x h0 h1 => funext fun c => f x c (by omega) (by omega) (by omega)
    obtain ⟨b1, b2, b3, b4, b5⟩ := H
    refine w_ok_some ⟨⟨⟨p2, ?_, ?_, ?_⟩, fun j hj => ?_, fun l L hL => ?_, ?_, fun m V hm => ?_⟩, fun y hy => fr y (by omega) (by omega), rfl⟩
    · dsimp only; rw [f 199 12 (by omega) (by omega) (by omega)]; exact b1.2.1
    · dsimp only; rw [f 199 3 (by omega) (by omega) (by omega)]; exact b1.2.2.1
    · dsimp only; rw [f 199 52 (by omega) (by omega) (by omega)]; exact b1.2.2.2
    · dsimp only
      unfold w_k_fed
      by_cases hj2 : j < A.1.1
      · rw [if_pos hj2, f 200 j (by omega) (by omega) (by omega)]; exact b2 j hj2
      · rw [if_neg hj2]
        have hj3 : j < A.1.1 + 20 := hj
        rw [← p3 (j - A.1.1) (by omega)]; congr 1; omega
    · obtain ⟨n, h1, h2, h3⟩ := b3 l L hL
      have hl4 : l < A.2.2.1.length := w_k_lt_of hL
      exact ⟨n, h1, by dsimp only; rw [fr 206 (by omega) (by omega)]; exact h2, by dsimp only; rw [fr (202 + l) (by omega) (by omega)]; exact h3⟩
    · refine w_k_MV_mk b4 (fun _ _ => rfl) (fun x h1 h2 => fr x (by omega) (by omega)) ?_
      dsimp only
      rw [f 199 26 (by omega) (by omega) (by omega), f 199 27 (by omega) (by omega) (by omega), f 199 28 (by omega) (by omega) (by omega), f 199 29 (by omega) (by omega) (by omega), f 199 13 (by omega) (by omega) (by omega), f 199 43 (by omega) (by omega) (by omega), f 199 49 (by omega) (by omega) (by omega), f 199 50 (by omega) (by omega) (by omega)]
      exact b4.1
    · dsimp only
      intro j hj
      rw [fr (561 + m) (by omega) (by omega)]; exact b5 m V hm j hj
