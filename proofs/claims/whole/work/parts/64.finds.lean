/-! find -/
def w_k_drop (V : w_k_V) (n p : Nat) : w_k_V := fun j => if j = 5 then V 5 - 1 else if 170 + 3 * p ≤ j ∧ j < 167 + 3 * n then V (j + 3) else V j
theorem w_k_dropn {V : w_k_V} {n p j : Nat} (h0 : j ≠ 5) (h1 : j < 170 + 3 * p ∨ 167 + 3 * n ≤ j) : w_k_drop V n p j = V j := by
  unfold w_k_drop; rw [if_neg h0, if_neg (by omega)]
theorem w_k_drops {V : w_k_V} {n p j : Nat} (h0 : 170 + 3 * p ≤ j) (h1 : j < 167 + 3 * n) : w_k_drop V n p j = V (j + 3) := by
  unfold w_k_drop; rw [if_neg (by omega), if_pos ⟨h0, h1⟩]
theorem w_k_drop5 {V : w_k_V} {n p : Nat} : w_k_drop V n p 5 = V 5 - 1 := rfl
theorem w_v_drop {n p : Nat} {V : w_k_V} (H : w_k_Vok n V) (hp : p < w_k_qc V) : w_k_qc (w_k_drop V (w_k_qc V) p) + 1 = w_k_qc V ∧ w_k_Vok n (w_k_drop V (w_k_qc V) p) := by
  have hb := w_k_Vb H
  have hc := w_k_qcI H
  obtain ⟨c, hc1⟩ : ∃ c, w_k_qc V = c + 1 := ⟨w_k_qc V - 1, by omega⟩
  have w_e5 : w_k_qc (w_k_drop V (w_k_qc V) p) = c := by
    show (V 5 - 1).toNatClampNeg = c
    rw [hc, hc1, w_k_m1, w_k_nat (by omega)]
  refine ⟨by omega, ?_⟩
  obtain ⟨a1, a2, a3, a4, a5, a6, a7, a8, a9, b1, b2, b3, b4⟩ := H
  have e0 : w_k_hc (w_k_drop V (w_k_qc V) p) = w_k_hc V := congrArg Int32.toNatClampNeg (w_k_dropn (by omega) (by omega))
  have e6 : w_k_pc (w_k_drop V (w_k_qc V) p) = w_k_pc V := congrArg Int32.toNatClampNeg (w_k_dropn (by omega) (by omega))
  unfold w_k_Vok
  rw [e0, w_e5, e6, w_k_drop5, w_k_dropn (j := 0) (by omega) (by omega), w_k_dropn (j := 6) (by omega) (by omega), w_k_dropn (j := 2) (by omega) (by omega), w_k_dropn (j := 3) (by omega) (by omega), w_k_dropn (j := 4) (by omega) (by omega), w_k_dropn (j := 7) (by omega) (by omega), w_k_dropn (j := 1) (by omega) (by omega),
    w_k_sum_cg (V := V) _ (fun q _ => w_k_dropn (by omega) (by omega))]
  refine ⟨a1, ⟨?_, by omega⟩, a3, a4, a5, a6, a7, fun h h1 h2 => ?_, fun h f h1 h2 => ?_, fun r hq => ?_, fun p hp => ?_, b3, fun h h2 => ?_⟩
  · rw [hc, hc1, w_k_m1]
  · rw [w_k_dropn (by omega) (by omega), w_k_dropn (by omega) (by omega), w_k_dropn (by omega) (by omega)]
    exact a8 h h1 h2
  · rw [w_k_dropn (by omega) (by omega)]
    exact a9 h f h1 h2
  · by_cases e : r < p
    · rw [w_k_dropn (by omega) (by omega), w_k_dropn (by omega) (by omega), w_k_dropn (by omega) (by omega)]
      exact b1 r (by omega)
    · rw [w_k_drops (by omega) (by omega), w_k_drops (by omega) (by omega), w_k_drops (by omega) (by omega)]
      exact b1 (r + 1) (by omega)
  · rw [w_k_dropn (by omega) (by omega)]; exact b2 p hp
  · rw [w_k_dropn (by omega) (by omega)]; exact b4 h h2
def w_k_find (V : w_k_V) (p : Nat) (b : Int32) : w_k_V := w_k_drop (w_k_tq V (V (170 + 3 * p)) (V (171 + 3 * p)) (V (172 + 3 * p)) b (V 2) (V 3)) (w_k_qc V) p
def w_a_find (V : w_k_V) (p b : Int32) : (Int32 ⊕ Nat) × w_k_V :=
  if w_k_wi p 0 (V 5 - 1) then (.inl (V (170 + 3 * p.toNatClampNeg)), w_k_find V p.toNatClampNeg b) else (.inr 1, V)
theorem w_k_tqn {n p : Nat} {V : w_k_V} {b h0 d0 : Int32} (H : w_k_Vok n V) (hp : p < w_k_qc V) {j : Nat} (h : j ≤ 1 ∨ (4 ≤ j ∧ j < 10) ∨ 166 ≤ j) : w_k_tq V (V (170 + 3 * p)) (V (171 + 3 * p)) (V (172 + 3 * p)) b h0 d0 j = V j := by
  obtain ⟨c1, c2, c3, c4⟩ := H.2.2.2.2.2.2.2.2.2.1 p hp
  unfold w_k_tq
  by_cases w_e4 : V (170 + 3 * p) = 4
  · rw [if_pos w_e4, w_k_un (by omega)]
  · rw [if_neg w_e4]
    by_cases w_e5 : V (170 + 3 * p) = 5
    · rw [if_pos w_e5, w_k_un (by omega)]
    · rw [if_neg w_e5]
      have h3 : w_k_wi (V (170 + 3 * p)) 0 3 := ((w_k_wi4.1 c1).elim id (fun h => absurd h (by rintro (h | h); exact w_e4 h; exact w_e5 h)))
      obtain ⟨i, hi, hie⟩ := w_k_iL 3 h3 rfl (by omega)
      obtain ⟨k, hk, hk3, hke⟩ := w_k_hx H (c2 (w_k_wi3l h3).1)
      rw [hie, hke, w_k_nat (by omega), w_k_nat (by omega), w_k_un (by omega)]
theorem w_v_tqp {n p : Nat} {V : w_k_V} {b h0 d0 : Int32} (H : w_k_Vok n V) (hp : p < w_k_qc V) (hb : m_isb b = true) (g0 : w_k_wi h0 (-1) 5) (g1 : w_k_wi d0 0 999) : w_k_Vok n (w_k_tq V (V (170 + 3 * p)) (V (171 + 3 * p)) (V (172 + 3 * p)) b h0 d0) := by
  obtain ⟨c1, c2, c3, c4⟩ := H.2.2.2.2.2.2.2.2.2.1 p hp
  exact w_v_tq H hb c1 c2 c3 c4 g0 g1
theorem w_v_find {n : Nat} {V : w_k_V} {p b : Int32} (hb : m_isb b = true) (H : w_k_Vok n V) : w_k_Vok n (w_a_find V p b).2 := by
  unfold w_a_find
  by_cases h : w_k_wi p 0 (V 5 - 1)
  · rw [if_pos h]
    obtain ⟨k, hk, rfl⟩ := w_k_i1 (w_k_qcI H) (by have := w_k_Vb H; omega) h
    have h1 := w_v_tqp H hk hb H.2.2.2.1 H.2.2.2.2.1
    have w_e5 : w_k_qc (w_k_tq V (V (170 + 3 * k)) (V (171 + 3 * k)) (V (172 + 3 * k)) b (V 2) (V 3)) = w_k_qc V := congrArg Int32.toNatClampNeg (w_k_tqn H hk (by omega))
    dsimp only
    rw [w_k_nat (by have := w_k_Vb H; omega)]
    unfold w_k_find
    have := w_v_drop (p := k) h1 (by omega)
    rw [w_e5] at this
    exact this.2
  · rw [if_neg h]; exact H
theorem w_e6_8 {s : g_S} {p n : Nat} {V : w_k_V} (H : ∀ q i, q < n + 1 → i < 3 → s (41 + q) i = V (170 + 3 * q + i)) (hn : n < 8) (h7 : s 22 7 = nI n) : ∀ d x t, p ≤ x → x + d = n →
    (∀ y, ¬ (41 + p ≤ y ∧ y < 41 + x) → t y = s y) → (∀ q i, p ≤ q → q < x → i < 3 → t (41 + q) i = V (170 + 3 * (q + 1) + i)) →
    ∃ u, f6_8L t 22 (nI p) (nI x) = some u ∧ (∀ y, ¬ (41 + p ≤ y ∧ y < 41 + n) → u y = s y) ∧ (∀ q i, p ≤ q → q < n → i < 3 → u (41 + q) i = V (170 + 3 * (q + 1) + i))
  | 0, x, t, hp, e, ht, h1 => by
    have e' : x = n := by omega
    subst e'
    rw [f6_8L_eq]; unfold f6_8
    rw [ht 22 (by omega), h7, if_neg (w_k_nlt (by omega) (by omega) (by omega))]
    exact ⟨t, rfl, ht, h1⟩
  | d + 1, x, t, hp, e, ht, h1 => by
    rw [f6_8L_eq]; unfold f6_8
    rw [ht 22 (by omega), h7, if_pos ((w_k_lt (by omega) (by omega)).2 (by omega)), if_pos ((w_k_inI (by omega)).2 (by omega)), w_k_s1, if_pos ((w_k_inI (by omega)).2 (by omega)), w_k_nat (by omega), w_k_nat (by omega)]
    obtain ⟨u, q1, q2, q3⟩ := w_e76 (s := t) (y := 41 + x) (x := 41 + (x + 1)) (by omega)
    rw [show 22 + 19 + x = 41 + x from rfl, show 22 + 19 + (x + 1) = 41 + (x + 1) from rfl, q1, w_k_bs]
    refine w_e6_8 H hn h7 d (x + 1) u (by omega) (by omega) (fun y hy => ?_) (fun q i h2 h3 h4 => ?_)
    · rw [q3 y (by omega)]; exact ht y (by omega)
    · by_cases e : q = x
      · subst e
        rw [q2 i h4, ht _ (by omega)]; exact H (q + 1) i (by omega) h4
      · rw [q3 _ (by omega)]; exact h1 q i h2 (by omega) h4
theorem w_c_find {s : g_S} {A : w_k_A} {p b : Int32} (hA : w_k_Aok A) (hb : m_isb b = true) (H : w_k_CI s A) : w_k_cop s (f104 s p b) (w_a_find A.2.2.2.1 p b).1 (w_k_sV A (w_a_find A.2.2.2.1 p b).2) := by
  have hV := hA.2.2.2.1
  have hv := H.2.2.2.2.1
  have hbd := w_k_Vb hV
  unfold f104 w_a_find
  rw [w_e118, w_k_bs, hv.1.2.2.2.2.2.1]
  by_cases h : w_k_wi p 0 (A.2.2.2.1 5 - 1)
  · rw [w_k_ift h, if_neg w_k_01, if_pos h]
    obtain ⟨k, hk, rfl⟩ := w_k_i1 (w_k_qcI hV) (by omega) h
    rw [if_pos ((w_k_inI (by omega)).2 (by omega)), w_k_nat (by omega)]
    obtain ⟨c1, c2, c3, c4⟩ := hV.2.2.2.2.2.2.2.2.2.1 k hk
    have x0 := hv.2.2.1 k 0 hk (by omega)
    have x1 := hv.2.2.1 k 1 hk (by omega)
    have x2 := hv.2.2.1 k 2 hk (by omega)
    obtain ⟨u, q1, q2, q3⟩ := w_e8 (x := 41 + k) (c3 := 22) hV hv hb c1 c2 x0 (x1.trans (congrArg A.2.2.2.1 (show 170 + 3 * k + 1 = 171 + 3 * k by omega))) (x2.trans (congrArg A.2.2.2.1 (show 170 + 3 * k + 2 = 172 + 3 * k by omega))) hv.1.2.2.1 hv.1.2.2.2.1
    rw [q1, w_k_bs]
    generalize hW : w_k_tq A.2.2.2.1 (A.2.2.2.1 (170 + 3 * k)) (A.2.2.2.1 (171 + 3 * k)) (A.2.2.2.1 (172 + 3 * k)) b (A.2.2.2.1 2) (A.2.2.2.1 3) = W at q2
    have hWn : ∀ j, (j ≤ 1 ∨ (4 ≤ j ∧ j < 10) ∨ 166 ≤ j) → W j = A.2.2.2.1 j := fun j hj => by rw [← hW]; exact w_k_tqn hV hk hj
    have hWV : w_k_Vok A.2.2.1.length W := by rw [← hW]; exact w_v_tqp hV hk hb hV.2.2.2.1 hV.2.2.2.2.1
    have hWq : w_k_qc W = w_k_qc A.2.2.2.1 := congrArg Int32.toNatClampNeg (hWn 5 (by omega))
    have hWb := w_k_Vb hWV
    have hd := w_v_drop (p := k) hWV (by omega)
    obtain ⟨n, hn⟩ : ∃ n, w_k_qc A.2.2.2.1 = n + 1 := ⟨w_k_qc A.2.2.2.1 - 1, by omega⟩
    unfold f6
    rw [w_k_let, q2.1.2.2.2.2.2.1, w_k_qcI hWV, hWq, hn, w_k_m1]
    obtain ⟨t, r1, r2, r3⟩ := w_e6_8 (s := g_w u 22 7 (nI n)) (p := k) (n := n) (V := W) (fun q i hq hi => by rw [w_k_wn (by omega)]; exact q2.2.2.1 q i (by omega) hi) (by omega) w_k_wv (n - k) k _ (Nat.le_refl _) (by omega) (fun _ _ => rfl) (fun q i h1 h2 => absurd h2 (by omega))
    rw [r1, w_k_bs]
    refine w_ok_some ⟨congrArg Sum.inl x0, w_k_CI_V hA (fun x h1 _ h2 => ?_) H ?_, fun y hy => ?_⟩
    · dsimp only; rw [r2 x (by omega), w_k_wn (by omega), q3 x (by omega) (by omega)]
    · dsimp only
      have hfi : w_k_find A.2.2.2.1 k b = w_k_drop W (w_k_qc W) k := by unfold w_k_find; rw [hW, hWq]
      rw [hfi]
      have h7 : t 22 = g_w u 22 7 (nI n) 22 := r2 22 (by omega)
      refine ⟨⟨?_, ?_, ?_, ?_, ?_, ?_, ?_⟩, fun g hh => ?_, fun r i hq hi => ?_, fun p hp => ?_⟩
      · rw [h7, w_k_wq (by omega), w_k_dropn (by omega) (by omega)]; exact q2.1.1
      · rw [h7, w_k_wq (by omega), w_k_dropn (by omega) (by omega)]; exact q2.1.2.1
      · rw [h7, w_k_wq (by omega), w_k_dropn (by omega) (by omega)]; exact q2.1.2.2.1
      · rw [h7, w_k_wq (by omega), w_k_dropn (by omega) (by omega)]; exact q2.1.2.2.2.1
      · rw [h7, w_k_wq (by omega), w_k_dropn (by omega) (by omega)]; exact q2.1.2.2.2.2.1
      · rw [h7, w_k_wv, w_k_drop5, w_k_qcI hWV, hWq, hn, w_k_m1]
      · rw [r2 _ (by omega), w_k_wn (by omega), w_k_dropn (by omega) (by omega)]; exact q2.1.2.2.2.2.2.2
      · have e0 : w_k_hc (w_k_drop W (w_k_qc W) k) = w_k_hc W := congrArg Int32.toNatClampNeg (w_k_dropn (by omega) (by omega))
        rw [e0] at hh
        exact w_k_CH_cg (by rw [r2 _ (by omega), w_k_wn (by omega)]) (fun j _ _ => w_k_dropn (by omega) (by omega)) (q2.2.1 g hh)
      · by_cases e : r < k
        · rw [w_k_dropn (by omega) (by omega), r2 _ (by omega), w_k_wn (by omega)]; exact q2.2.2.1 r i (by omega) hi
        · rw [w_k_drops (by omega) (by omega), show 22 + 19 + r = 41 + r from rfl, r3 r i (by omega) (by omega) hi]; congr 1; omega
      · have e6 : w_k_pc (w_k_drop W (w_k_qc W) k) = w_k_pc W := congrArg Int32.toNatClampNeg (w_k_dropn (by omega) (by omega))
        rw [e6] at hp
        rw [w_k_dropn (by omega) (by omega), w_k_dropn (by omega) (by omega), r2 _ (by omega), w_k_wn (by omega), r2 _ (by omega), w_k_wn (by omega)]; exact q2.2.2.2 p hp
    · dsimp only; rw [r2 y (by omega), w_k_wn (by omega), q3 y (by omega) (by omega)]
  · rw [w_k_iff h, if_pos rfl, if_neg h]
    exact w_ok_some ⟨rfl, H, fun _ _ => rfl⟩
theorem w_e206_77 {s : g_S} {p b x3 : Int32} {x : Nat} (hx : x + 1 < 8) : ∃ u, f206_77L s p b x3 (nI x) 0 = some (.inl (nI (x + 1), u)) ∧ (∀ y, y ≠ 260 + x → u y = s y) ∧ ∀ i, i < 3 → u (260 + x) i = s (260 + (x + 1)) i := by
  have i1 : m_in (nI x) 8 = true := (w_k_inI (by omega)).2 (by omega)
  have i2 : m_in (nI x + 1) 8 = true := by rw [w_k_s1]; exact (w_k_inI (by omega)).2 (by omega)
  have n1 : (nI x).toNatClampNeg = x := w_k_nat (by omega)
  have n2 : (nI x + 1).toNatClampNeg = x + 1 := by rw [w_k_s1]; exact w_k_nat (by omega)
  have i0 : m_in 0 3 = true := rfl
  have j1 : m_in (0 + 1) 3 = true := rfl
  have j2 : m_in (0 + 1 + 1) 3 = true := rfl
  have l0 : (0 : Int32) < 3 := by decide
  have l1 : (0 + 1 : Int32) < 3 := by decide
  have l2 : (0 + 1 + 1 : Int32) < 3 := by decide
  have l3 : ¬ (0 + 1 + 1 + 1 : Int32) < 3 := by decide
  have m0 : (0 : Int32).toNatClampNeg = 0 := rfl
  have m1 : (0 + 1 : Int32).toNatClampNeg = 1 := rfl
  have m2 : (0 + 1 + 1 : Int32).toNatClampNeg = 2 := rfl
  rw [f206_77L_eq]; unfold f206_77
  simp only [w_k_let, i1, i2, n1, n2, i0, l0, m0, if_true, g_st]
  rw [f206_77L_eq]; unfold f206_77
  simp only [w_k_let, i1, i2, n1, n2, j1, l1, m1, if_true, g_st]
  rw [f206_77L_eq]; unfold f206_77
  simp only [w_k_let, i1, i2, n1, n2, j2, l2, m2, if_true, g_st]
  rw [f206_77L_eq]; unfold f206_77
  simp only [if_false, l3, g_st]
  rw [w_k_s1]
  refine ⟨_, rfl, fun y hy => ?_, fun i hi => ?_⟩
  · simp (disch := omega) only [w_k_wn]
  · match i, hi with
    | 0, _ => simp (disch := omega) only [w_k_wq, w_k_wv]
    | 1, _ => simp (disch := omega) only [w_k_wq, w_k_wv]
    | 2, _ => simp (disch := omega) only [w_k_wq, w_k_wv]
theorem w_e206_69 {s : g_S} {p0 b x3 : Int32} {p n : Nat} (hn : n < 8) (h7 : s 199 43 = nI (n + 1)) : ∀ d x t, p ≤ x → x + d = n →
    (∀ y, ¬ (260 + p ≤ y ∧ y < 260 + x) → t y = s y) → (∀ q i, p ≤ q → q < x → i < 3 → t (260 + q) i = s (260 + (q + 1)) i) →
    ∃ u, f206_69L t p0 b x3 (nI x) = some (x3, u) ∧ u 199 43 = nI n ∧ (∀ y b, ¬ (y = 199 ∧ b = 43) → ¬ (260 + p ≤ y ∧ y < 260 + n) → u y b = s y b) ∧ (∀ q i, p ≤ q → q < n → i < 3 → u (260 + q) i = s (260 + (q + 1)) i)
  | 0, x, t, hp, e, ht, h1 => by
    have e' : x = n := by omega
    subst e'
    rw [f206_69L_eq]; unfold f206_69 f206_98
    rw [ht 199 (by omega), h7, w_k_s1, if_neg (w_k_nlt (by omega) (by omega) (by omega)), w_k_let, w_k_m1]
    refine ⟨_, rfl, w_k_wv, fun y b h2 h3 => ?_, fun q i h2 h3 h4 => ?_⟩
    · rw [w_k_wq (by omega), ht y (by omega)]
    · rw [w_k_wq (by omega)]; exact h1 q i h2 h3 h4
  | d + 1, x, t, hp, e, ht, h1 => by
    rw [f206_69L_eq]; unfold f206_69
    rw [ht 199 (by omega), h7, w_k_s1, if_pos ((w_k_lt (by omega) (by omega)).2 (by omega))]
    obtain ⟨u, q1, q2, q3⟩ := w_e206_77 (s := t) (p := p0) (b := b) (x3 := x3) (x := x) (by omega)
    rw [q1]
    refine w_e206_69 hn h7 d (x + 1) u (by omega) (by omega) (fun y hy => ?_) (fun q i h2 h3 h4 => ?_)
    · rw [q2 y (by omega)]; exact ht y (by omega)
    · by_cases e : q = x
      · subst e
        rw [q3 i h4, ht _ (by omega)]
      · rw [q2 _ (by omega)]; exact h1 q i h2 (by omega) h4
theorem w_m_find {TR : w_k_TR} {s : g_S} {A : w_k_A} {p b : Int32} (hA : w_k_Aok A) (hb : m_isb b = true) (H : w_k_MI TR s A) : w_k_mop TR w_k_cN s (f206 s p b) (w_a_find A.2.2.2.1 p b).1 (w_k_sV A (w_a_find A.2.2.2.1 p b).2) := by
  have hV := hA.2.2.2.1
  have hv := H.2.2.2.1
  have hbd := w_k_Vb hV
  unfold f206 w_a_find
  rw [w_k_let, w_k_0n (by omega), hv.1.2.2.2.2.2.1, w_e135, w_k_bs]
  by_cases h : w_k_wi p 0 (A.2.2.2.1 5 - 1)
  · rw [w_k_ift h, if_neg w_k_01, if_pos h]
    obtain ⟨k, hk, rfl⟩ := w_k_i1 (w_k_qcI hV) (by omega) h
    have hk8 : k < 8 := by omega
    unfold f206_15
    rw [w_e134o w_k_00, w_k_bd, if_pos rfl, if_pos ((w_k_inI (by omega)).2 hk8), w_k_nat (by omega), w_k_0x (by omega)]
    obtain ⟨c1, c2, c3, c4⟩ := hV.2.2.2.2.2.2.2.2.2.1 k hk
    have x0 := hv.2.2.2.2.1 k 0 hk8 (by omega)
    have x1 := hv.2.2.2.2.1 k 1 hk8 (by omega)
    have x2 := hv.2.2.2.2.1 k 2 hk8 (by omega)
    rw [show 170 + 3 * k + 0 = 170 + 3 * k from rfl] at x0
    rw [show 170 + 3 * k + 1 = 171 + 3 * k by omega] at x1
    rw [show 170 + 3 * k + 2 = 172 + 3 * k by omega] at x2
    rw [x0, x1, x2]
    obtain ⟨n, hn⟩ : ∃ n, w_k_qc A.2.2.2.1 = n + 1 := ⟨w_k_qc A.2.2.2.1 - 1, by omega⟩
    -- told, then dropped
    have drop : ∀ t W, w_k_MV t W → w_k_tq A.2.2.2.1 (A.2.2.2.1 (170 + 3 * k)) (A.2.2.2.1 (171 + 3 * k)) (A.2.2.2.1 (172 + 3 * k)) b (A.2.2.2.1 2) (A.2.2.2.1 3) = W →
        t 199 0 = 0 → (∀ y b, ¬ w_k_ch y b → ¬ (y = 199 ∧ b = 0) → t y b = s y b) →
        w_k_mop TR w_k_cN s (f206_69L t (nI k) b (A.2.2.2.1 (170 + 3 * k)) (nI k)) (.inl (A.2.2.2.1 (170 + 3 * k))) (w_k_sV A (w_k_find A.2.2.2.1 k b)) := by
      intro t W ht hW h0 hf
      have hWn : ∀ j, (j ≤ 1 ∨ (4 ≤ j ∧ j < 10) ∨ 166 ≤ j) → W j = A.2.2.2.1 j := fun j hj => by rw [← hW]; exact w_k_tqn hV hk hj
      have hWq : w_k_qc W = w_k_qc A.2.2.2.1 := congrArg Int32.toNatClampNeg (hWn 5 (by omega))
      have h5 : W 5 = nI (n + 1) := by rw [hWn 5 (by omega), w_k_qcI hV, hn]
      obtain ⟨u, r1, r2, r3, r4⟩ := w_e206_69 (s := t) (p0 := nI k) (b := b) (x3 := A.2.2.2.1 (170 + 3 * k)) (p := k) (n := n) (by omega) (by rw [ht.1.2.2.2.2.2.1, h5]) (n - k) k t (Nat.le_refl _) (by omega) (fun _ _ => rfl) (fun q i h1 h2 => absurd h2 (by omega))
      rw [r1]
      have hfi : w_k_find A.2.2.2.1 k b = w_k_drop W (w_k_qc W) k := by unfold w_k_find; rw [hW, hWq]
      rw [hfi]
      refine w_ok_some ⟨w_k_MI_V hA (fun x b h1 h2 h3 h4 => ?_) H ⟨⟨?_, ?_, ?_, ?_, ?_, ?_, ?_, ?_⟩, fun h i hh hi => ?_, fun h hh => ?_, fun h f hh hf => ?_, fun r i hq hi => ?_, fun p hp => ?_⟩, fun y hy => funext fun b => ?_, fun w hw => ?_, fun e he => by cases he⟩
      · dsimp only
        have h4' := h4
        unfold w_k_sM at h3; unfold w_k_ch at h4
        rw [r3 x b (by omega) (by omega), hf x b h4' (by omega)]
      · dsimp only; rw [r3 _ _ (by omega) (by omega), w_k_dropn (by omega) (by omega)]; exact ht.1.1
      · dsimp only; rw [r3 _ _ (by omega) (by omega), w_k_dropn (by omega) (by omega)]; exact ht.1.2.1
      · dsimp only; rw [r3 _ _ (by omega) (by omega), w_k_dropn (by omega) (by omega)]; exact ht.1.2.2.1
      · dsimp only; rw [r3 _ _ (by omega) (by omega), w_k_dropn (by omega) (by omega)]; exact ht.1.2.2.2.1
      · dsimp only; rw [r3 _ _ (by omega) (by omega), w_k_dropn (by omega) (by omega)]; exact ht.1.2.2.2.2.1
      · dsimp only; rw [r2, w_k_drop5, h5, w_k_m1]
      · dsimp only; rw [r3 _ _ (by omega) (by omega), w_k_dropn (by omega) (by omega)]; exact ht.1.2.2.2.2.2.2.1
      · dsimp only; rw [r3 _ _ (by omega) (by omega), w_k_dropn (by omega) (by omega)]; exact ht.1.2.2.2.2.2.2.2
      · dsimp only; rw [r3 _ _ (by omega) (by omega), w_k_dropn (by omega) (by omega)]; exact ht.2.1 h i hh hi
      · dsimp only; rw [r3 _ _ (by omega) (by omega), r3 _ _ (by omega) (by omega), w_k_dropn (by omega) (by omega), w_k_dropn (by omega) (by omega)]; exact ht.2.2.1 h hh
      · dsimp only; rw [r3 _ _ (by omega) (by omega), w_k_dropn (by omega) (by omega)]; exact ht.2.2.2.1 h f hh hf
      · dsimp only
        by_cases e : r < k ∨ n ≤ r
        · rw [w_k_dropn (by omega) (by omega), r3 _ _ (by omega) (by omega)]; exact ht.2.2.2.2.1 r i hq hi
        · rw [w_k_drops (by omega) (by omega), r4 r i (by omega) (by omega) hi, ht.2.2.2.2.1 (r + 1) i (by omega) hi]; congr 1; omega
      · dsimp only; rw [r3 _ _ (by omega) (by omega), r3 _ _ (by omega) (by omega), w_k_dropn (by omega) (by omega), w_k_dropn (by omega) (by omega)]; exact ht.2.2.2.2.2 p hp
      · dsimp only; rw [r3 y b (by omega) (by omega), hf y b (by unfold w_k_ch; omega) (by omega)]
      · cases hw; exact ⟨by dsimp only; rw [r3 199 0 (by omega) (by omega), h0], rfl⟩
    have hM0 := w_k_M0 hv
    by_cases h4 : A.2.2.2.1 (170 + 3 * k) = 4
    · have hnl : ¬ A.2.2.2.1 (170 + 3 * k) < 4 := by rw [h4]; decide
      have hn5 : ¬ A.2.2.2.1 (170 + 3 * k) = 5 := by rw [h4]; decide
      rw [if_neg hnl]
      unfold f206_51 f206_59
      rw [if_pos h4]
      by_cases hb0 : b = 0
      · rw [if_pos hb0, if_neg hn5]
        refine drop _ _ (w_k_MV_mk hM0 (W := w_k_tq A.2.2.2.1 (A.2.2.2.1 (170 + 3 * k)) (A.2.2.2.1 (171 + 3 * k)) (A.2.2.2.1 (172 + 3 * k)) b (A.2.2.2.1 2) (A.2.2.2.1 3)) (fun j hj => ?_) (fun x h1 h2 => rfl) ?_) rfl w_k_00 (fun y b h1 h2 => w_k_wq h2)
        · unfold w_k_tq; rw [if_pos h4, w_k_un (by omega)]
        · unfold w_k_tq; rw [if_pos h4, if_pos hb0]; exact ⟨hv.1.1, hv.1.2.1, hv.1.2.2.1, hv.1.2.2.2.1, hv.1.2.2.2.2.1, hv.1.2.2.2.2.2.1, hv.1.2.2.2.2.2.2.1, hv.1.2.2.2.2.2.2.2⟩
      · rw [if_neg hb0, w_k_let, if_neg hn5]
        refine drop _ _ (w_k_MV_mk hM0 (W := w_k_tq A.2.2.2.1 (A.2.2.2.1 (170 + 3 * k)) (A.2.2.2.1 (171 + 3 * k)) (A.2.2.2.1 (172 + 3 * k)) b (A.2.2.2.1 2) (A.2.2.2.1 3)) (fun j hj => ?_) (fun x h1 h2 => w_k_wn (by omega)) ?_) rfl (by rw [w_k_wq (by omega)]; exact w_k_00) (fun y b h1 h2 => by unfold w_k_ch at h1; rw [w_k_wq (by omega), w_k_wq h2])
        · unfold w_k_tq; rw [if_pos h4, w_k_un (by omega)]
        · unfold w_k_tq; rw [if_pos h4, if_neg hb0]; exact ⟨hv.1.1, hv.1.2.1, rfl, hv.1.2.2.2.1, hv.1.2.2.2.2.1, hv.1.2.2.2.2.2.1, hv.1.2.2.2.2.2.2.1, hv.1.2.2.2.2.2.2.2⟩
    · by_cases h5 : A.2.2.2.1 (170 + 3 * k) = 5
      · have hnl : ¬ A.2.2.2.1 (170 + 3 * k) < 4 := by rw [h5]; decide
        rw [if_neg hnl]
        unfold f206_51 f206_59
        rw [if_neg h4, if_pos h5]
        by_cases hb0 : b = 0
        · rw [if_pos hb0]
          refine drop _ _ (w_k_MV_mk hM0 (W := w_k_tq A.2.2.2.1 (A.2.2.2.1 (170 + 3 * k)) (A.2.2.2.1 (171 + 3 * k)) (A.2.2.2.1 (172 + 3 * k)) b (A.2.2.2.1 2) (A.2.2.2.1 3)) (fun j hj => ?_) (fun x h1 h2 => rfl) ?_) rfl w_k_00 (fun y b h1 h2 => w_k_wq h2)
          · unfold w_k_tq; rw [if_neg h4, if_pos h5, w_k_un (by omega)]
          · unfold w_k_tq; rw [if_neg h4, if_pos h5, if_pos hb0]; exact ⟨hv.1.1, hv.1.2.1, hv.1.2.2.1, hv.1.2.2.2.1, hv.1.2.2.2.2.1, hv.1.2.2.2.2.2.1, hv.1.2.2.2.2.2.2.1, hv.1.2.2.2.2.2.2.2⟩
        · rw [if_neg hb0, w_k_let]
          refine drop _ _ (w_k_MV_mk hM0 (W := w_k_tq A.2.2.2.1 (A.2.2.2.1 (170 + 3 * k)) (A.2.2.2.1 (171 + 3 * k)) (A.2.2.2.1 (172 + 3 * k)) b (A.2.2.2.1 2) (A.2.2.2.1 3)) (fun j hj => ?_) (fun x h1 h2 => w_k_wn (by omega)) ?_) rfl (by rw [w_k_wq (by omega)]; exact w_k_00) (fun y b h1 h2 => by unfold w_k_ch at h1; rw [w_k_wq (by omega), w_k_wq h2])
          · unfold w_k_tq; rw [if_neg h4, if_pos h5, w_k_un (by omega)]
          · unfold w_k_tq; rw [if_neg h4, if_pos h5, if_neg hb0]; exact ⟨hv.1.1, hv.1.2.1, hv.1.2.2.1, rfl, hv.1.2.2.2.2.1, hv.1.2.2.2.2.2.1, hv.1.2.2.2.2.2.2.1, hv.1.2.2.2.2.2.2.2⟩
      · have h3 : w_k_wi (A.2.2.2.1 (170 + 3 * k)) 0 3 := ((w_k_wi4.1 c1).elim id (fun h => absurd h (by rintro (h | h); exact h4 h; exact h5 h)))
        obtain ⟨i, hi, hie⟩ := w_k_iL 3 h3 rfl (by omega)
        obtain ⟨g, hg, hg3, hge⟩ := w_k_hx hV (c2 (w_k_wi3l h3).1)
        rw [if_pos (w_k_wi3l h3).1]
        unfold f206_51 f206_59
        rw [hge, if_pos (w_k_hin hg3)]
        rw [if_pos (show m_in (A.2.2.2.1 (170 + 3 * k)) 4 = true by rw [hie]; exact (w_k_inI (by omega)).2 (by omega)), if_pos hb, w_k_let, if_neg h4, if_neg h5]
        have ei : (A.2.2.2.1 (170 + 3 * k)).toNatClampNeg = i := by rw [hie, w_k_nat (by omega)]
        rw [ei, w_k_nat (by omega)]
        have htq : w_k_tq A.2.2.2.1 (A.2.2.2.1 (170 + 3 * k)) (A.2.2.2.1 (171 + 3 * k)) (A.2.2.2.1 (172 + 3 * k)) b (A.2.2.2.1 2) (A.2.2.2.1 3) = upd A.2.2.2.1 (17 + 12 * g + i) b := by
          unfold w_k_tq; rw [if_neg h4, if_neg h5, hie, hge, w_k_nat (by omega), w_k_nat (by omega)]
        refine drop _ _ (w_k_MV_hand hM0 hg3 (fun j hj => w_k_un (by omega)) ?_ ?_ ?_ ?_ ?_ ?_) htq ?_ (fun y b h1 h2 => ?_)
        · intro b _ _ _ _ _ _; rw [w_k_wn (by omega)]
        · intro x hx; rw [w_k_wn (by omega)]
        · intro h hh hk; simp (disch := omega) only [w_k_wn]; exact ⟨trivial, trivial⟩
        · intro j hj; rw [w_k_wn (y := 209 + g) (by omega), w_k_un (by omega)]; exact hM0.2.1 g j hg3 hj
        · rw [w_k_wn (y := 222) (by omega), w_k_wn (y := 223) (by omega), w_k_un (by omega), w_k_un (by omega)]; exact hM0.2.2.1 g hg3
        · intro f hf
          by_cases e : f = i
          · subst e; rw [w_k_wv, w_k_ue]
          · rw [w_k_wq (by omega), w_k_un (by omega)]; exact hM0.2.2.2.1 g f hg3 hf
        · rw [w_k_wq (by omega)]; exact w_k_00
        · unfold w_k_ch at h1
          rw [w_k_wn (by omega), w_k_wq h2]
  · rw [w_k_iff h, if_pos rfl, if_neg h]
    unfold f206_15
    rw [w_e134b w_k_00 w_k_01, w_k_bd, if_neg w_k_01]
    exact w_m_ref hA H rfl
