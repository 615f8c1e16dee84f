/-! the start -/
def w_k_V0 : w_k_V := fun j => if j = 0 then 1 else if j = 1 then 100 else if j = 2 ∨ j = 4 then -1 else if 15 ≤ j ∧ j < 171 ∧ (j - 15) % 12 = 0 then 9999 else 0
def w_k_A0 : w_k_A := ((0, fun _ => 0), (-1, ([], (w_k_V0, []))))
theorem w_k_Vok0 : w_k_Vok 0 w_k_V0 := by
  refine ⟨by decide, by decide, by decide, by decide, by decide, Or.inl (by decide), by decide, ?_, ?_, ?_, ?_, by decide, ?_⟩
  · have e : w_k_hc w_k_V0 = 1 := by decide
    rw [e]; intro h h1 h2; omega
  · have e : ∀ h, h < 13 → ∀ f, f < 4 → m_isb (w_k_V0 (17 + 12 * h + f)) = true := by decide
    exact fun h f a b => e h a f b
  · have e : w_k_qc w_k_V0 = 0 := by decide
    rw [e]; intro q h; omega
  · have e : w_k_pc w_k_V0 = 0 := by decide
    rw [e]; intro q h; omega
  · have e : w_k_hc w_k_V0 = 1 := by decide
    rw [e]; intro h h1
    have : h = 0 := by omega
    subst this; decide
theorem w_k_Aok0 : w_k_Aok w_k_A0 := ⟨by decide, fun j h => absurd h (by show ¬ j < 0; omega), by decide, w_k_Vok0, by decide, fun V h => (by cases h)⟩
theorem w_k_C0a : (g_S0 0 1 = nI 0 ∧ g_S0 0 3 = nI 0 ∧ g_S0 0 6 = -1 ∧ g_S0 0 11 = nI 0) ∧ (g_S0 3 0 = -1 ∧ g_S0 3 1 = nI 0) ∧
    (g_S0 22 1 = w_k_V0 0 ∧ g_S0 22 2 = w_k_V0 1 ∧ g_S0 22 3 = w_k_V0 2 ∧ g_S0 22 4 = w_k_V0 3 ∧ g_S0 22 5 = w_k_V0 4 ∧ g_S0 22 7 = w_k_V0 5 ∧ g_S0 (22 + 3) 0 = w_k_V0 6) ∧
    ((∀ i, i < 5 → g_S0 28 i = -1) ∧ g_S0 28 5 = w_k_V0 15 ∧ g_S0 28 6 = w_k_V0 16 ∧ g_S0 28 7 = nI 0 ∧ ∀ f, f < 4 → w_k_V0 (17 + f) = 0) := by decide +kernel
theorem w_k_M0a : (g_S0 199 1 = nI 0 ∧ g_S0 199 12 = nI 0 ∧ g_S0 199 3 = -1 ∧ g_S0 199 52 = nI 0) ∧
    (g_S0 199 26 = w_k_V0 0 ∧ g_S0 199 27 = w_k_V0 1 ∧ g_S0 199 28 = w_k_V0 2 ∧ g_S0 199 29 = w_k_V0 3 ∧ g_S0 199 13 = w_k_V0 4 ∧ g_S0 199 43 = w_k_V0 5 ∧ g_S0 199 49 = w_k_V0 6 ∧ g_S0 199 50 = w_k_V0 7) := by decide +kernel
theorem w_k_M0b : ∀ h, h < 13 → (∀ i, i < 5 → g_S0 (209 + h) i = w_k_V0 (10 + 12 * h + i)) ∧ (g_S0 222 h = w_k_V0 (15 + 12 * h) ∧ g_S0 223 h = w_k_V0 (16 + 12 * h)) ∧ ∀ f, f < 4 → g_S0 (225 + h) f = w_k_V0 (17 + 12 * h + f) := by decide +kernel
theorem w_k_M0c : ∀ q, q < 8 → ∀ i, i < 3 → g_S0 (260 + q) i = w_k_V0 (170 + 3 * q + i) := by decide +kernel
theorem w_k_M0d : ∀ p, p < 20 → g_S0 (540 + p) 0 = w_k_V0 (200 + 2 * p) ∧ g_S0 (540 + p) 1 = w_k_V0 (201 + 2 * p) := by decide +kernel
theorem w_k_CI0 : w_k_CI g_S0 w_k_A0 := by
  obtain ⟨a1, a2, a3, a4⟩ := w_k_C0a
  refine ⟨a1, fun j h => absurd h (by show ¬ j < 0; omega), ⟨a2.1, a2.2, by decide, fun i c h => (by cases h)⟩, fun l L h => (by cases h), ⟨a3, ?_, ?_, ?_⟩, fun m V h => (by cases h)⟩
  · intro h hh
    have e : w_k_hc w_k_A0.2.2.2.1 = 1 := by decide
    rw [e] at hh
    have : h = 0 := by omega
    subst this
    exact ⟨fun i hi => a4.1 i hi, a4.2.1, a4.2.2.1, 0, by omega, a4.2.2.2.1, fun f hf => by
      have := a4.2.2.2.2 f hf
      rw [Nat.zero_testBit]; exact this⟩
  · intro q i hq
    have e : w_k_qc w_k_A0.2.2.2.1 = 0 := by decide
    rw [e] at hq; omega
  · intro q hq
    have e : w_k_pc w_k_A0.2.2.2.1 = 0 := by decide
    rw [e] at hq; omega
theorem w_k_MI0 : w_k_MI w_TR0 g_S0 w_k_A0 :=
  ⟨w_k_M0a.1, fun j h => absurd h (by show ¬ j < 0; omega), fun l L h => (by cases h), ⟨w_k_M0a.2, fun h i a b => (w_k_M0b h a).1 i b, fun h a => (w_k_M0b h a).2.1, fun h f a b => (w_k_M0b h a).2.2 f b, fun q i a b => w_k_M0c q a i b, w_k_M0d⟩, fun m V h => (by cases h)⟩
theorem w_k_all {X : m_X} (hX : X.1 ≤ 3584) : ∃ z, f251L X 0 g_S0 0 = some (1, z) ∧ z.2 ≤ 513 := by
  obtain ⟨z, h1, h2⟩ := w_k_loop (X := X) w_HH0 w_op_82 hX 513 0 g_S0 w_k_A0 0 (by omega) (by omega) ⟨w_k_Aok0, w_k_CI0, w_k_MI0⟩
  exact ⟨z, h1, by omega⟩
