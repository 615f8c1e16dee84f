/-! parting -/
def w_a_cf (L : w_q_L) (o : Nat) : Int32 := if (w_q_holds L 0 (nI (o / 192)) (nI (o / 32 % 6)) (w_a_nm o 0 100 10) || w_q_holds L 1 (nI (o / 192)) (nI (o / 32 % 6)) (w_a_nm o 0 100 10)) = true then w_q_owed L (nI (o / 192)) (w_a_nm o 0 100 10) else 0
theorem w_e36 {s : g_S} {l o : Nat} {L : w_q_L} (H : w_k_LR s l L) (hl : l ≠ 14 ∧ ¬ (l ≤ 21 ∧ 21 < l + 8)) (hn : ∀ i, i < 8 → s 21 i = w_a_nm o 0 100 10 i) : ∃ u, f36 s l (nI (o / 192)) (nI (o / 32 % 6)) 21 = some (w_a_cf L o, u) ∧ ∀ y, y ≠ l + 7 → u y = s y := by
  have hok := w_k_LRok H
  unfold f36 w_a_cf
  obtain ⟨u1, p1, p2⟩ := w_e34 (t := 0) (k := nI (o / 192)) (h := nI (o / 32 % 6)) H (p := 21) (by omega)
  rw [w_q_holds_cg hn hok] at p1
  rw [p1, w_k_bd]
  have owe : ∀ z : g_S, (∀ y, y ≠ l + 7 → z y = s y) → ∃ u, f36_14 z l (nI (o / 192)) (nI (o / 32 % 6)) 21 = some (w_q_owed L (nI (o / 192)) (w_a_nm o 0 100 10), u) ∧ ∀ y, y ≠ l + 7 → u y = s y := by
    intro z hz
    unfold f36_14 f36_17
    rw [if_neg w_k_01]
    obtain ⟨u, q1, q2⟩ := w_e35 (k := nI (o / 192)) (w_k_LR_7 hz H) (p := 21) (by omega)
    rw [w_q_owed_cg (m := w_a_nm o 0 100 10) (fun i hi => by rw [hz 21 (by omega)]; exact hn i hi) hok] at q1
    rw [q1, w_k_bd]
    exact ⟨u, rfl, fun y hy => by rw [q2 y hy, hz y hy]⟩
  cases h0 : w_q_holds L 0 (nI (o / 192)) (nI (o / 32 % 6)) (w_a_nm o 0 100 10) with
  | true =>
    rw [if_neg (by decide)]
    exact owe u1 p2
  | false =>
    rw [if_pos (show w_q_b false = 0 from rfl)]
    obtain ⟨u2, r1, r2⟩ := w_e34 (t := 1) (k := nI (o / 192)) (h := nI (o / 32 % 6)) (w_k_LR_7 p2 H) (p := 21) (by omega)
    rw [w_q_holds_cg (m := w_a_nm o 0 100 10) (fun i hi => by rw [p2 21 (by omega)]; exact hn i hi) hok] at r1
    have f2 : ∀ y, y ≠ l + 7 → u2 y = s y := fun y hy => by rw [r2 y hy, p2 y hy]
    rw [r1, w_k_bd]
    cases h1 : w_q_holds L 1 (nI (o / 192)) (nI (o / 32 % 6)) (w_a_nm o 0 100 10) with
    | true => rw [if_neg (by decide)]; exact owe u2 f2
    | false =>
      rw [if_pos (show w_q_b false = 0 from rfl)]
      unfold f36_17
      rw [if_pos rfl]
      exact ⟨u2, rfl, f2⟩
def w_o_pt (L M : w_q_L) : Nat → Nat → Int32
  | 0, _ => -1
  | d + 1, o => if w_a_cf L o = w_a_cf M o then w_o_pt L M d (o + 1) else nI o
def w_a_part (A : w_k_A) (l m : Int32) : Int32 ⊕ Nat := if w_k_wi l 0 (nI A.2.2.1.length - 1) ∧ w_k_wi m 0 (nI A.2.2.1.length - 1) then .inl (w_o_pt (w_a_law A.2.2.1 l) (w_a_law A.2.2.1 m) 1152 0) else .inr 0
theorem w_c_111_14 {s : g_S} {A : w_k_A} (hA : w_k_Aok A) (H : w_k_CI s A) {l m : Nat} (hl : l < A.2.2.1.length) (hm : m < A.2.2.1.length) : ∀ d o y, o + d = 1152 → (∀ x, ¬ w_k_sC x → y x = s x) →
    ∃ u, f111_14L y (nI l) (nI m) (nI o) = some (.inl (w_o_pt (w_a_law A.2.2.1 (nI l)) (w_a_law A.2.2.1 (nI m)) d o), u) ∧ ∀ x, ¬ w_k_sC x → u x = s x
  | 0, o, y, e, hy => by
    have e' : o = 1152 := by omega
    subst e'
    rw [f111_14L_eq]; unfold f111_14
    rw [if_neg (by decide)]
    exact ⟨y, rfl, hy⟩
  | d + 1, o, y, e, hy => by
    obtain ⟨l4, hL⟩ := w_c_law hA H hl
    obtain ⟨m4, hM⟩ := w_c_law hA H hm
    rw [f111_14L_eq]; unfold f111_14 f122 f123
    obtain ⟨u, p1, p2, p3⟩ := w_e124 (s := y) (o := o) (t := 0) (v := 100) (d := 10)
    have fu : ∀ x, ¬ w_k_sC x → u x = s x := fun x hs => by rw [p3 x (fun e => hs (by rw [e]; unfold w_k_sC; omega)), hy x hs]
    have lr : ∀ z : g_S, (∀ x, ¬ w_k_sC x → z x = s x) → w_k_LR z (86 + 8 * l) (w_a_law A.2.2.1 (nI l)) ∧ w_k_LR z (86 + 8 * m) (w_a_law A.2.2.1 (nI m)) := fun z hz => ⟨w_k_LR_cg (fun x q1 q2 => hz x (by unfold w_k_sC; omega)) hL, w_k_LR_cg (fun x q1 q2 => hz x (by unfold w_k_sC; omega)) hM⟩
    obtain ⟨v, q1, q2⟩ := w_e36 (o := o) (lr u fu).1 (by omega) p2
    have fv : ∀ x, ¬ w_k_sC x → v x = s x := fun x hs => by rw [q2 x (fun e => hs (e ▸ w_k_sC_l l4)), fu x hs]
    obtain ⟨w, r1, r2⟩ := w_e36 (o := o) (lr v fv).2 (by omega) (fun i hi => by rw [q2 21 (by omega)]; exact p2 i hi)
    have fw : ∀ x, ¬ w_k_sC x → w x = s x := fun x hs => by rw [r2 x (fun e => hs (e ▸ w_k_sC_l m4)), fv x hs]
    obtain ⟨k1, _, k3, _⟩ := w_k_of1 o (by omega)
    rw [if_pos (show nI o < 1152 from (w_k_lt (b := 1152) (by omega) (by omega)).2 (by omega)), p1, w_k_bs, w_k_bs, w_k_bs, k1, show nI o / 32 - nI (o / 192) * 6 = nI (o / 32 % 6) by rw [← k1]; exact k3, if_pos ((w_k_inI (by omega)).2 (by omega)), w_k_nat (show l < 2147483648 by omega), q1, w_k_bd, if_pos ((w_k_inI (by omega)).2 (by omega)), w_k_nat (show m < 2147483648 by omega), r1, w_k_bd]
    unfold w_o_pt
    by_cases hc : w_a_cf (w_a_law A.2.2.1 (nI l)) o = w_a_cf (w_a_law A.2.2.1 (nI m)) o
    · rw [if_pos hc, if_pos hc, w_k_s1]
      exact w_c_111_14 hA H hl hm d (o + 1) w (by omega) fw
    · rw [if_neg hc, if_neg hc]
      exact ⟨w, rfl, fw⟩
theorem w_c_part {s : g_S} {A : w_k_A} {l m : Int32} (hA : w_k_Aok A) (H : w_k_CI s A) : w_k_cop s (f111 s l m) (w_a_part A l m) A := by
  have h4 := hA.2.2.1
  have bad : ¬ (w_k_wi l 0 (nI A.2.2.1.length - 1) ∧ w_k_wi m 0 (nI A.2.2.1.length - 1)) → w_k_cop s (f111_10 s l m) (w_a_part A l m) A := by
    intro h
    unfold f111_10 f111_11 w_a_part
    rw [if_neg h, w_e116f]
    exact w_ok_some ⟨rfl, H, fun _ _ => rfl⟩
  unfold f111
  rw [w_e119, H.1.2.1, w_k_bs]
  by_cases h1 : w_k_wi l 0 (nI A.2.2.1.length - 1)
  · rw [w_k_ift h1, if_neg w_k_01, w_e119, H.1.2.1, w_k_bs]
    by_cases h2 : w_k_wi m 0 (nI A.2.2.1.length - 1)
    · rw [w_k_ift h2, if_neg w_k_01]
      unfold f111_11 w_a_part
      rw [if_pos (show w_k_wi l 0 (nI A.2.2.1.length - 1) ∧ w_k_wi m 0 (nI A.2.2.1.length - 1) from ⟨h1, h2⟩), w_e116t, w_k_tbl]
      obtain ⟨i, hi, rfl⟩ := w_k_i1 rfl (by omega) h1
      obtain ⟨j, hj, rfl⟩ := w_k_i1 rfl (by omega) h2
      obtain ⟨u, q1, q2⟩ := w_c_111_14 hA H hi hj 1152 0 s (by omega) (fun _ _ => rfl)
      rw [show f111_14L s (nI i) (nI j) 0 = _ from q1]
      exact w_ok_some ⟨rfl, w_c_sc hA H q2⟩
    · rw [w_k_iff h2, if_pos rfl]; exact bad (fun h => h2 h.2)
  · rw [w_k_iff h1, if_pos rfl]; exact bad (fun h => h1 h.1)
theorem w_m_214 {TR : w_k_TR} {s y : g_S} {A : w_k_A} {l o : Nat} (hT : w_k_HH TR) (hA : w_k_Aok A) (H : w_k_MI TR s A) (hl : l < A.2.2.1.length) (ho : o < 1152) (hy : ∀ x b, ¬ w_k_sM x b → y x b = s x b) (hy0 : y 199 0 = 0) :
    ∃ u, f214 y (nI l) (nI o) = some (w_a_cf (w_a_law A.2.2.1 (nI l)) o, u) ∧ (∀ x b, ¬ w_k_sM x b → u x b = s x b) ∧ u 199 0 = 0 := by
  obtain ⟨u, p1, p2, p3⟩ := w_e169 (s := y) (o := o) (t := 0) (v := 100) (d := 10) ho
  have hL := w_m_law hT hA H hl
  obtain ⟨z, q1, q2, q3, q4, q5, q6, _⟩ := w_m_ask (A := A) (h := nI (o / 32 % 6)) (r := 0) hT hL (t := g_w (g_w (g_w u 207 5 0) 207 6 100) 207 7 10) (fun x b hx => by have hx' := hx; unfold w_k_sM at hx'; rw [p3 x (by omega), hy x b hx]) (by rw [p3 199 (by omega)]; exact hy0) (w_k_ofk ho).1 (w_k_ofk ho).2 (by decide)
  rw [w_q_holds_cg p2 hL.1] at q4 q5
  rw [w_q_owed_cg p2 hL.1] at q6
  unfold f214 w_a_cf
  rw [p1, w_k_bs, w_k_let, w_k_let, w_k_let, (w_k_of1 o ho).2.1, (w_k_of1 o ho).2.2.1, q1, w_k_bs, q4, q5, q6]
  refine ⟨z, ?_, q2, q3⟩
  cases w_q_holds (w_a_law A.2.2.1 (nI l)) 0 (nI (o / 192)) (nI (o / 32 % 6)) (w_a_nm o 0 100 10) with
  | true => rw [if_neg (by decide)]; rfl
  | false =>
    rw [if_pos (show w_q_b false = 0 from rfl)]
    cases w_q_holds (w_a_law A.2.2.1 (nI l)) 1 (nI (o / 192)) (nI (o / 32 % 6)) (w_a_nm o 0 100 10) with
    | true => rw [if_neg (by decide)]; rfl
    | false => rw [if_pos (show w_q_b false = 0 from rfl)]; rfl
theorem w_m_215_30 {TR : w_k_TR} {s : g_S} {A : w_k_A} (hT : w_k_HH TR) (hA : w_k_Aok A) (H : w_k_MI TR s A) {l m : Nat} (hl : l < A.2.2.1.length) (hm : m < A.2.2.1.length) : ∀ d o y, o + d = 1152 → (∀ x b, ¬ w_k_sM x b → y x b = s x b) → y 199 0 = 0 →
    ∃ u, f215_30L y (nI l) (nI m) (nI o) = some (w_o_pt (w_a_law A.2.2.1 (nI l)) (w_a_law A.2.2.1 (nI m)) d o, u) ∧ (∀ x b, ¬ w_k_sM x b → u x b = s x b) ∧ u 199 0 = 0
  | 0, o, y, e, hy, hy0 => by
    have e' : o = 1152 := by omega
    subst e'
    rw [f215_30L_eq]; unfold f215_30
    rw [if_neg (by decide)]
    exact ⟨y, rfl, hy, hy0⟩
  | d + 1, o, y, e, hy, hy0 => by
    obtain ⟨u, p1, p2, p3⟩ := w_m_214 hT hA H hl (o := o) (by omega) hy hy0
    obtain ⟨v, q1, q2, q3⟩ := w_m_214 hT hA H hm (o := o) (by omega) p2 p3
    rw [f215_30L_eq]; unfold f215_30
    rw [if_pos (show nI o < 1152 from (w_k_lt (b := 1152) (by omega) (by omega)).2 (by omega)), p1, w_k_bd, q1, w_k_bd]
    unfold w_o_pt
    by_cases hc : w_a_cf (w_a_law A.2.2.1 (nI l)) o = w_a_cf (w_a_law A.2.2.1 (nI m)) o
    · rw [if_pos hc, if_pos hc, w_k_s1]
      exact w_m_215_30 hT hA H hl hm d (o + 1) v (by omega) q2 q3
    · rw [if_neg hc, if_neg hc]
      exact ⟨v, rfl, q2, q3⟩
theorem w_m_part {TR : w_k_TR} {s : g_S} {A : w_k_A} {l m : Int32} (hT : w_k_HH TR) (hA : w_k_Aok A) (H : w_k_MI TR s A) : w_k_mop TR w_k_cI s (f215 s l m) (w_a_part A l m) A := by
  have h4 := hA.2.2.1
  have bad : ¬ (w_k_wi l 0 (nI A.2.2.1.length - 1) ∧ w_k_wi m 0 (nI A.2.2.1.length - 1)) → w_k_mop TR w_k_cI s (f215_20 (g_w s 199 0 0) l m) (w_a_part A l m) A := by
    intro h
    unfold f215_20 f215_23 w_a_part
    rw [if_neg h, w_e134b w_k_00 w_k_01, w_k_bd, if_neg w_k_01]
    exact w_m_ref hA H rfl
  unfold f215
  rw [w_k_let, w_k_0n (by omega), H.1.2.1, w_e135, w_k_bs]
  by_cases h1 : w_k_wi l 0 (nI A.2.2.1.length - 1)
  · rw [w_k_ift h1, if_neg w_k_01, w_e135, w_k_bs]
    by_cases h2 : w_k_wi m 0 (nI A.2.2.1.length - 1)
    · rw [w_k_ift h2, if_neg w_k_01]
      unfold f215_23 w_a_part
      rw [if_pos (show w_k_wi l 0 (nI A.2.2.1.length - 1) ∧ w_k_wi m 0 (nI A.2.2.1.length - 1) from ⟨h1, h2⟩), w_e134o w_k_00, w_k_bd, if_pos rfl]
      obtain ⟨i, hi, rfl⟩ := w_k_i1 rfl (by omega) h1
      obtain ⟨j, hj, rfl⟩ := w_k_i1 rfl (by omega) h2
      obtain ⟨u, q1, q2, q3⟩ := w_m_215_30 hT hA H hi hj 1152 0 (g_w s 199 0 0) (by omega) (fun x b hx => by unfold w_k_sM at hx; rw [w_k_wq (by omega)]) w_k_00
      rw [show f215_30L (g_w s 199 0 0) (nI i) (nI j) 0 = _ from q1]
      exact w_m_scr2 hA H q2 q3
    · rw [w_k_iff h2, if_pos rfl]; exact bad (fun h => h2 h.2)
  · rw [w_k_iff h1, if_pos rfl]; exact bad (fun h => h1 h.1)
/-! share -/
def w_o_ll (V : w_k_V) (o : Int32) : Nat → Int32 → Int32 → Int32
  | 0, _, a => a
  | p + 1, x, a => w_o_ll V o p (x - g_min x (V (201 + 2 * p))) (if V (200 + 2 * p) = o then a + g_min x (V (201 + 2 * p)) else a)
def w_o_ow (V : w_k_V) (o : Int32) : Nat → Int32 → Int32
  | 0, a => a
  | p + 1, a => w_o_ow V o p (if V (200 + 2 * p) = o then a + V (201 + 2 * p) else a)
theorem w_k_sum_n {V : w_k_V} : ∀ p, p ≤ 20 → (∀ q, q < p → w_k_wi (V (201 + 2 * q)) 0 999) → ∃ n, n ≤ 999 * p ∧ w_k_sum V p = nI n
  | 0, _, _ => ⟨0, by omega, rfl⟩
  | p + 1, hp, h => by
    obtain ⟨n, h1, h2⟩ := w_k_sum_n p (by omega) (fun q hq => h q (by omega))
    obtain ⟨m, h3, h4⟩ := w_k_iL 999 (h p (by omega)) rfl (by omega)
    refine ⟨n + m, by omega, ?_⟩
    show w_k_sum V p + V (201 + 2 * p) = _
    rw [h2, h4, w_k_add]
theorem w_o_ll_ow {V : w_k_V} {o : Int32} : ∀ p a, p ≤ 20 → (∀ q, q < p → w_k_wi (V (201 + 2 * q)) 0 999) → w_o_ll V o p (w_k_sum V p) a = w_o_ow V o p a
  | 0, _, _, _ => rfl
  | p + 1, a, hp, h => by
    obtain ⟨n, h1, h2⟩ := w_k_sum_n p (by omega) (fun q hq => h q (by omega))
    obtain ⟨m, h3, h4⟩ := w_k_iL 999 (h p (by omega)) rfl (by omega)
    have es : w_k_sum V (p + 1) = nI (n + m) := by show w_k_sum V p + V (201 + 2 * p) = _; rw [h2, h4, w_k_add]
    have em : g_min (nI (n + m)) (nI m) = nI m := by
      unfold g_min
      by_cases h0 : nI m < nI (n + m)
      · rw [if_pos h0]
      · rw [if_neg h0]
        rw [w_k_lt (by omega) (by omega)] at h0
        rw [show n + m = m by omega]
    have ed : nI (n + m) - nI m = nI n := by rw [← w_k_add]; grind
    unfold w_o_ll w_o_ow
    rw [es, h4, em, ed, ← h2]
    exact w_o_ll_ow p _ (by omega) (fun q hq => h q (by omega))
theorem w_e21_9 {s : g_S} {V : w_k_V} {o w : Int32} (H : w_k_CV s 22 V) (hp : w_k_pc V ≤ 20) : ∀ p x a, p ≤ w_k_pc V → f21_9L s 25 o w x a (nI p - 1) = some (w_o_ll V o p x a)
  | 0, x, a, _ => by
    rw [f21_9L_eq]; unfold f21_9
    rw [if_pos (by decide)]; rfl
  | p + 1, x, a, h => by
    obtain ⟨g1, g2⟩ := H.2.2.2 p (by omega)
    have g1' : s (25 + 1) p = V (200 + 2 * p) := g1
    have g2' : s (25 + 2) p = V (201 + 2 * p) := g2
    have em : nI p + (-1) = nI p - 1 := by rw [Int32.sub_eq_add_neg]
    rw [f21_9L_eq]; unfold f21_9
    rw [w_k_m1, if_neg (show ¬ nI p < 0 from w_k_nlt (b := 0) (by omega) (by omega) (by omega)), if_pos ((w_k_inI (by omega)).2 (by omega)), w_k_nat (by omega), g1', g2', em]
    unfold w_o_ll
    by_cases hc : V (200 + 2 * p) = o
    · rw [if_pos hc, if_pos hc]; exact w_e21_9 H hp p _ _ (by omega)
    · rw [if_neg hc, if_neg hc]; exact w_e21_9 H hp p _ _ (by omega)
def w_a_shv (A : w_k_A) (o w : Int32) : Int32 := if (w_a_inf A).2 = 0 then w * w_o_ow A.2.2.2.1 o (w_k_pc A.2.2.2.1) 0 else if (w_a_inf A).2 = 1 then A.2.2.2.1 7 * w_o_ll A.2.2.2.1 o (w_k_pc A.2.2.2.1) w 0 else 0
def w_a_share (A : w_k_A) (o w : Int32) : Int32 ⊕ Nat := if w_k_wi o 0 5 ∧ w_k_wi w 0 (A.2.2.2.1 7) then .inl (w_a_shv A o w) else .inr 0
theorem w_c_share {s : g_S} {A : w_k_A} {o w : Int32} (hA : w_k_Aok A) (H : w_k_CI s A) : w_k_cop s (f108 s o w) (w_a_share A o w) A := by
  have hV := hA.2.2.2.1
  have hb := w_k_Vb hV
  have hv := H.2.2.2.2.1
  have bad : ¬ (w_k_wi o 0 5 ∧ w_k_wi w 0 (A.2.2.2.1 7)) → w_k_cop s (f108_13 s o w) (w_a_share A o w) A := by
    intro h
    unfold f108_13 f108_14 w_a_share
    rw [if_neg h, w_e116f]
    exact w_ok_some ⟨rfl, H, fun _ _ => rfl⟩
  have e19' : f19 s 25 = some (A.2.2.2.1 7) := w_e19 (c := 22) hV hv
  unfold f108
  rw [w_e118, w_k_bs]
  by_cases h1 : w_k_wi o 0 5
  · rw [w_k_ift h1, if_neg w_k_01, e19', w_k_bs, w_e118, w_k_bs]
    by_cases h2 : w_k_wi w 0 (A.2.2.2.1 7)
    · rw [w_k_ift h2, if_neg w_k_01]
      unfold f108_14 w_a_share w_a_shv
      rw [if_pos (show w_k_wi o 0 5 ∧ w_k_wi w 0 (A.2.2.2.1 7) from ⟨h1, h2⟩), w_e116t, w_k_tbl]
      obtain ⟨l, g1, g2, g3, _⟩ := w_c_inf hA H
      have hc0 : s 25 0 = nI (w_k_pc A.2.2.2.1) := hv.1.2.2.2.2.2.2.trans (w_k_pcI hV)
      have hll : ∀ x, f21 s 25 o x = some (w_o_ll A.2.2.2.1 o (w_k_pc A.2.2.2.1) x 0) := fun x => by
        unfold f21; rw [hc0]; exact w_e21_9 hv hb.2.2 _ x 0 (Nat.le_refl _)
      rw [g1, w_k_bs, if_pos g2, g3.1]
      by_cases m0 : (w_a_inf A).2 = 0
      · rw [if_pos m0, if_pos m0]
        unfold f20
        rw [e19', w_k_bs, hll, w_k_bs, w_k_bs, hV.2.2.2.2.2.2.1, w_o_ll_ow _ _ hb.2.2 (fun q hq => hV.2.2.2.2.2.2.2.2.2.2.1 q hq)]
        exact w_ok_some ⟨rfl, H, fun _ _ => rfl⟩
      · rw [if_neg m0, if_neg m0]
        by_cases m1 : (w_a_inf A).2 = 1
        · rw [if_pos m1, if_pos m1, e19', w_k_bs, hll, w_k_bs]
          exact w_ok_some ⟨rfl, H, fun _ _ => rfl⟩
        · rw [if_neg m1, if_neg m1]
          exact w_ok_some ⟨rfl, H, fun _ _ => rfl⟩
    · rw [w_k_iff h2, if_pos rfl]; exact bad (fun h => h2 h.2)
  · rw [w_k_iff h1, if_pos rfl]; exact bad (fun h => h1 h.1)
theorem w_e211_25 {s : g_S} {o w : Int32} : ∀ m i y, i + m = 8 → (∀ z, z ≠ 207 → y z = s z) → ∃ u, f211_25L y o w (nI i) = f211_35 u o w ∧ ∀ z, z ≠ 207 → u z = s z
  | 0, i, y, e, h1 => by
    have e' : i = 8 := by omega
    subst e'
    rw [f211_25L_eq]; unfold f211_25
    rw [if_neg (by decide)]
    refine ⟨y, ?_, h1⟩
    generalize f211_35 y o w = z
    cases z <;> rfl
  | m + 1, i, y, e, h1 => by
    rw [f211_25L_eq]; unfold f211_25
    rw [if_pos (show nI i < 8 from (w_k_lt (b := 8) (by omega) (by omega)).2 (by omega)), if_pos ((w_k_inI (by omega)).2 (by omega)), w_k_nat (by omega), w_k_let, w_k_s1]
    exact w_e211_25 m (i + 1) _ (by omega) (fun z hz => by dsimp only; rw [w_k_wn hz, h1 z hz])
theorem w_e211_53 {s : g_S} {V : w_k_V} {o w : Int32} (H : w_k_MV s V) (hp : w_k_pc V ≤ 20) : ∀ p own gone x, p ≤ w_k_pc V → f211_53L s o w own gone x (nI p - 1) = f211_92 s o w (w_o_ow V o p own) (w_o_ll V o p x gone)
  | 0, own, gone, x, _ => by
    rw [f211_53L_eq]; unfold f211_53
    rw [if_pos (by decide)]
    show g_st (Option.map _ (f211_92 s o w own gone)) _ = f211_92 s o w own gone
    cases f211_92 s o w own gone <;> rfl
  | p + 1, own, gone, x, h => by
    obtain ⟨g1, g2⟩ := H.2.2.2.2.2 p (by omega)
    have em : nI p + (-1) = nI p - 1 := by rw [Int32.sub_eq_add_neg]
    rw [f211_53L_eq]; unfold f211_53
    rw [w_k_m1, if_neg (show ¬ nI p < 0 from w_k_nlt (b := 0) (by omega) (by omega) (by omega)), if_pos ((w_k_inI (by omega)).2 (by omega)), w_k_nat (by omega), g1, g2, w_e136, w_k_bs, em]
    unfold w_o_ll w_o_ow
    by_cases hc : V (200 + 2 * p) = o
    · rw [if_pos hc, if_pos hc, if_pos hc]; exact w_e211_53 H hp p _ _ _ (by omega)
    · rw [if_neg hc, if_neg hc, if_neg hc]; exact w_e211_53 H hp p _ _ _ (by omega)
theorem w_m_mix {TR : w_k_TR} {s : g_S} {A : w_k_A} (hT : w_k_HH TR) (hA : w_k_Aok A) (H : w_k_MI TR s A) : (w_a_inf A).2 = -1 ∨ (w_a_inf A).2 = 0 ∨ (w_a_inf A).2 = 1 := by
  unfold w_a_inf
  rcases hA.2.2.2.1.2.2.2.2.2.1 with e | ⟨l, hl, e⟩
  · rw [e]; exact Or.inl rfl
  · have := hA.2.2.1
    obtain ⟨N, h1, h2, h3⟩ := H.2.2.1 l _ (w_a_law_at hl (by omega))
    rw [e]; exact hT.2.2 _ _ _ h3
theorem w_m_share {TR : w_k_TR} {s : g_S} {A : w_k_A} {o w : Int32} (hT : w_k_HH TR) (hA : w_k_Aok A) (H : w_k_MI TR s A) : w_k_mop TR w_k_cI s (f211 s o w) (w_a_share A o w) A := by
  have hV := hA.2.2.2.1
  have hb := w_k_Vb hV
  have hv := H.2.2.2.1
  have bad : ¬ (w_k_wi o 0 5 ∧ w_k_wi w 0 (A.2.2.2.1 7)) → w_k_mop TR w_k_cI s (f211_15 (g_w s 199 0 0) o w) (w_a_share A o w) A := by
    intro h
    unfold f211_15 f211_18 w_a_share
    rw [if_neg h, w_e134b w_k_00 w_k_01, w_k_bd, if_neg w_k_01]
    exact w_m_ref hA H rfl
  unfold f211
  rw [w_k_let, w_e135, w_k_bs]
  by_cases h1 : w_k_wi o 0 5
  · rw [w_k_ift h1, if_neg w_k_01, w_k_0n (by omega), hv.1.2.2.2.2.2.2.2, w_e135, w_k_bs]
    by_cases h2 : w_k_wi w 0 (A.2.2.2.1 7)
    · rw [w_k_ift h2, if_neg w_k_01]
      unfold f211_18 w_a_share
      rw [if_pos (show w_k_wi o 0 5 ∧ w_k_wi w 0 (A.2.2.2.1 7) from ⟨h1, h2⟩), w_e134o w_k_00, w_k_bd, if_pos rfl]
      obtain ⟨u, g1, g2⟩ := w_e211_25 (s := g_w s 199 0 0) (o := o) (w := w) 8 0 _ (by omega) (fun _ _ => rfl)
      rw [show f211_25L (g_w s 199 0 0) o w 0 = _ from g1]
      unfold f211_35
      have hL := w_m_inf hT hA H
      have w_e13 : u 199 13 = s 199 13 := by rw [g2 199 (by omega), w_k_wq (by omega)]
      rw [w_e13]
      obtain ⟨z, q1, q2, q3, _, _, _, _, _, q9⟩ := w_m_ask (A := A) (k := 0) (h := 0) (r := 0) hT hL (t := u) (fun x b hx => by unfold w_k_sM at hx; rw [g2 x (by omega), w_k_wq (by omega)]) (by rw [g2 199 (by omega)]; exact w_k_00) (by decide) (by decide) (by decide)
      have hMz : w_k_MV z A.2.2.2.1 := w_k_MV_cg hv q2
      rw [q1, w_k_bs, hMz.1.2.2.2.2.2.2.1, w_k_pcI hV, w_e211_53 hMz hb.2.2 _ 0 0 w (Nat.le_refl _)]
      unfold f211_92 w_a_shv
      rw [q9, hMz.1.2.2.2.2.2.2.2]
      rcases w_m_mix hT hA H with e | e | e
      · rw [e, if_pos (show (-1 + 1 : Int32) = 0 by decide), if_neg (show ¬ (-1 : Int32) = 0 by decide), if_neg (show ¬ (-1 : Int32) = 1 by decide)]
        exact w_m_scr2 hA H q2 q3
      · rw [e, if_neg (show ¬ (0 + 1 : Int32) = 0 by decide), if_pos (show (0 + 1 : Int32) = 1 by decide), if_pos rfl]
        exact w_m_scr2 hA H q2 q3
      · rw [e, if_neg (show ¬ (1 + 1 : Int32) = 0 by decide), if_neg (show ¬ (1 + 1 : Int32) = 1 by decide), if_neg w_k_01, if_pos rfl, Int32.mul_comm (A.2.2.2.1 7)]
        exact w_m_scr2 hA H q2 q3
    · rw [w_k_iff h2, if_pos rfl]; exact bad (fun h => h2 h.2)
  · rw [w_k_iff h1, if_pos rfl]; exact bad (fun h => h1 h.1)
/-! frees -/
def w_a_frees (A : w_k_A) (p : Int32) : Int32 ⊕ Nat := w_a_one A p (w_o_bears A.2.2.2.1 (w_a_inf A) p.toNatClampNeg - w_o_bears (upd A.2.2.2.1 (20 + 12 * p.toNatClampNeg) 1) (w_a_inf A) p.toNatClampNeg)
theorem w_c_frees {s : g_S} {A : w_k_A} {p : Int32} (hA : w_k_Aok A) (H : w_k_CI s A) : w_k_cop s (f97 s p) (w_a_frees A p) A := by
  refine w_c_one hA H (y := fun s2 => (f120 s2).bind fun v3 => if g_lay v3 = o_4 v3 then (f10 s2 22 v3).bind fun s6 => if m_in p 13 = true then (f1 s6 49 22).bind fun s9 => (f27 s9 (55 + p.toNatClampNeg) 3 1).bind fun s11 => (f120 s11).bind fun v12 => if g_lay v12 = o_4 v12 then (f10 s11 49 v12).bind fun s15 => some ((.inl ((s6 81 p.toNatClampNeg) - (s15 81 p.toNatClampNeg)), s15)) else none else none else none) (by unfold f97; rfl) (fun k hk hk3 e => ?_)
  subst e
  have hV := hA.2.2.2.1
  have hb := w_k_Vb hV
  have ek : (nI k).toNatClampNeg = k := w_k_nat (by omega)
  obtain ⟨l, u, h1, h2, h3, h4, h5, h6⟩ := w_c_end hA H
  obtain ⟨t, p1, p2, p3⟩ := w_e1 (s := u) (c0 := 49) (c1 := 22) h5.2.2.2.2.1 hV (by omega)
  obtain ⟨m, hm, r1, r2, _⟩ := w_k_tell (p2.2.1 k hk) (f := 3) (b := 1) (by omega) rfl
  have e20 : 17 + 12 * k + 3 = 20 + 12 * k := by omega
  rw [e20] at r2
  have hW : w_k_Vok A.2.2.1.length (upd A.2.2.2.1 (20 + 12 * k) 1) := by rw [← e20]; exact w_k_Vok_b hV hk3 (by omega) rfl
  have hCW : w_k_CV (g_w t (49 + 6 + k) 7 (nI m)) 49 (upd A.2.2.2.1 (20 + 12 * k) 1) := w_k_CV_hand p2 hb.1 hb.2.1 hk (fun j hj => w_k_un (by omega)) (fun x q1 q2 q3 => w_k_wn (by omega)) r2
  have hCt : w_k_CI (g_w t (49 + 6 + k) 7 (nI m)) A := w_k_CI_cg hA (fun x hx hs => by unfold w_k_sC at hs; rw [w_k_wn (by omega), p3 x (by omega)]) h5
  obtain ⟨l2, g1, g2, g3, g4, g5, g6⟩ := w_c_inf hA hCt
  obtain ⟨v, q1, q2, q3⟩ := w_e10 hW hCW g3 (Or.inr rfl) g4
  rw [h1, w_k_bs, if_pos h2, h3, w_k_bs, if_pos (w_k_hin hk3), p1, w_k_bs, ek, show 55 + k = 49 + 6 + k from rfl, show f27 t (49 + 6 + k) 3 1 = _ from r1, w_k_bs, g1, w_k_bs, if_pos g2, q1, w_k_bs, (h4.2 k hk3).2.2.2.1, (q2.2 k hk3).2.2.2.1]
  refine w_ok_some ⟨rfl, w_k_CI_cg hA (fun x hx hs => q3 x ?_ ?_) hCt, fun y hy => ?_⟩
  · unfold w_k_sC at hs; omega
  · intro e; exact hs (e ▸ g5)
  · dsimp only; rw [q3 y (by omega) (by omega), w_k_wn (by omega), p3 y (by omega), h6 y hy]
theorem w_m_frees {TR : w_k_TR} {s : g_S} {A : w_k_A} {p : Int32} (hT : w_k_HH TR) (hA : w_k_Aok A) (H : w_k_MI TR s A) : w_k_mop TR w_k_cN s (f191 s p) (w_a_frees A p) A := by
  refine w_m_one hA H (K := fun s2 => if m_in p 13 = true then if (s2 (225 + p.toNatClampNeg) 3) = 0 then ((f182 s2 (s2 199 13)).bind fun s7 => g_let (g_w s7 (225 + p.toNatClampNeg) 3 1) fun s8 => (f182 s8 (s8 199 13)).bind fun s10 => g_let (g_w s10 (225 + p.toNatClampNeg) 3 0) fun s11 => some (((s7 242 p.toNatClampNeg) - (s11 242 p.toNatClampNeg), s11))) else (some ((0, s2))) else none) (by unfold f191; rw [w_k_let, w_e173, w_k_mh H, w_k_bs]; exact w_k_g1 w_k_00) (fun k hk hk3 e => ?_)
  subst e
  have hV := hA.2.2.2.1
  have hv := H.2.2.2.1
  have ek : (nI k).toNatClampNeg = k := w_k_nat (by omega)
  have e20 : 17 + 12 * k + 3 = 20 + 12 * k := by omega
  have x3 : g_w s 199 0 0 (225 + k) 3 = A.2.2.2.1 (20 + 12 * k) := by rw [w_k_wq (by omega), ← e20]; exact hv.2.2.2.1 k 3 hk3 (by omega)
  rw [if_pos (w_k_hin hk3), ek, x3]
  by_cases h0 : A.2.2.2.1 (20 + 12 * k) = 0
  · rw [if_pos h0]
    obtain ⟨u, h1, h2, h3, h4, h5⟩ := w_m_end hT hA H
    have hW : w_k_Vok A.2.2.1.length (upd A.2.2.2.1 (20 + 12 * k) 1) := by rw [← e20]; exact w_k_Vok_b hV hk3 (by omega) rfl
    have hMW : w_k_MV (g_w u (225 + k) 3 1) (upd A.2.2.2.1 (20 + 12 * k) 1) := by rw [← e20]; exact w_mv_f h5 hk3 (by omega)
    have w_e13 : g_w u (225 + k) 3 1 199 13 = s 199 13 := by rw [w_k_wn (by omega), h3 199 13 (by unfold w_k_sM; omega)]
    have hL : w_k_ML TR (g_w u (225 + k) 3 1) (g_w u (225 + k) 3 1 199 13) (w_a_inf A) := by
      rw [w_e13]
      refine w_k_ML_cg (w_m_inf hT hA H) (fun x q1 q2 => funext fun c => ?_)
      rw [w_k_wn (by omega), h3 x c (by unfold w_k_sM; omega)]
    obtain ⟨v, q1, q2, q3⟩ := w_e182 hT.1 hW hL hMW
    rw [h1, w_k_bs, w_k_let, q1, w_k_bs, w_k_let, w_k_wn (by omega), (h2.2.1 k hk3).2.2.2.1, (q2.2.1 k hk3).2.2.2.1]
    refine w_m_scr2 hA H (fun x b hx => ?_) ?_
    · have hx' := hx
      unfold w_k_sM at hx
      by_cases e : x = 225 + k ∧ b = 3
      · rw [e.1, e.2, w_k_wv, ← h0, ← e20, hv.2.2.2.1 k 3 hk3 (by omega)]
      · rw [w_k_wq e, q3 x b (by unfold w_k_sE; omega), w_k_wq e, h3 x b hx']
    · rw [w_k_wn (by omega), q3 199 0 (by unfold w_k_sE; omega), w_k_wn (by omega), h4]
  · rw [if_neg h0]
    have h1 : A.2.2.2.1 (20 + 12 * k) = 1 := by
      have := hV.2.2.2.2.2.2.2.2.1 k 3 hk3 (by omega)
      rw [e20] at this
      exact (w_k_isb this).resolve_left h0
    have hu : upd A.2.2.2.1 (20 + 12 * k) 1 = A.2.2.2.1 := by
      funext j
      by_cases e : j = 20 + 12 * k
      · rw [e, w_k_ue, h1]
      · rw [w_k_un e]
    rw [hu, Int32.sub_self]
    exact w_m_scr2 hA H (w_k_eM_w w_k_eM_rfl (by unfold w_k_sM; omega)) w_k_00
