/-! cases -/
def w_k_sl (V : w_k_V) (q : Nat) : Nat := if V (170 + 3 * q) = 4 then 2 else if V (170 + 3 * q) = 5 then 3 else 17 + 12 * (V (171 + 3 * q)).toNatClampNeg + (V (170 + 3 * q)).toNatClampNeg
def w_k_sv (V : w_k_V) (q : Nat) (b : Int32) : Int32 := if V (170 + 3 * q) = 4 then (if b = 0 then V 2 else V (172 + 3 * q)) else if V (170 + 3 * q) = 5 then (if b = 0 then V 3 else V (172 + 3 * q)) else b
theorem w_k_tq_sl (V W : w_k_V) (q : Nat) (b : Int32) : w_k_tq W (V (170 + 3 * q)) (V (171 + 3 * q)) (V (172 + 3 * q)) b (V 2) (V 3) = upd W (w_k_sl V q) (w_k_sv V q b) := by
  unfold w_k_tq w_k_sl w_k_sv
  by_cases h4 : V (170 + 3 * q) = 4
  · rw [if_pos h4, if_pos h4, if_pos h4]
  · rw [if_neg h4, if_neg h4, if_neg h4]
    by_cases h5 : V (170 + 3 * q) = 5
    · rw [if_pos h5, if_pos h5, if_pos h5]
    · rw [if_neg h5, if_neg h5, if_neg h5]
def w_k_cs (V W : w_k_V) (b : Nat) : Nat → w_k_V
  | 0 => W
  | q + 1 => upd (w_k_cs V W b q) (w_k_sl V q) (w_k_sv V q (w_q_b (b.testBit q)))
theorem w_cs_at {V W : w_k_V} {b j : Nat} : ∀ n, (∀ q, q < n → w_k_sl V q ≠ j) → w_k_cs V W b n j = W j
  | 0, _ => rfl
  | n + 1, h => by
    show upd (w_k_cs V W b n) (w_k_sl V n) _ j = _
    rw [w_k_un (fun e => h n (by omega) e.symm)]
    exact w_cs_at n (fun q hq => h q (by omega))
theorem w_cs_or {V W X : w_k_V} {b j : Nat} : ∀ n, (∀ q, q < n → w_k_sl V q ≠ j) ∨ w_k_cs V W b n j = w_k_cs V X b n j
  | 0 => Or.inl (fun q hq => absurd hq (by omega))
  | n + 1 => by
    by_cases e : w_k_sl V n = j
    · subst e
      right
      show upd (w_k_cs V W b n) (w_k_sl V n) _ _ = upd (w_k_cs V X b n) (w_k_sl V n) _ _
      rw [w_k_ue, w_k_ue]
    · rcases w_cs_or (V := V) (W := W) (X := X) (b := b) (j := j) n with h | h
      · left
        intro q hq
        by_cases w_e2 : q = n
        · subst w_e2; exact e
        · exact h q (by omega)
      · right
        show upd (w_k_cs V W b n) (w_k_sl V n) _ _ = upd (w_k_cs V X b n) (w_k_sl V n) _ _
        rw [w_k_un (fun w_e2 => e w_e2.symm), w_k_un (fun w_e2 => e w_e2.symm), h]
def w_k_lk (V W : w_k_V) : Prop := ∀ j, (∀ q, q < w_k_qc V → w_k_sl V q ≠ j) → W j = V j
theorem w_cs_eq {V W : w_k_V} {b : Nat} (h : w_k_lk V W) : w_k_cs V W b (w_k_qc V) = w_k_cs V V b (w_k_qc V) := by
  funext j
  rcases w_cs_or (V := V) (W := W) (X := V) (b := b) (j := j) (w_k_qc V) with h1 | h1
  · rw [w_cs_at _ h1, w_cs_at _ h1]; exact h j h1
  · exact h1
theorem w_cs_lk {V W : w_k_V} {b : Nat} (h : w_k_lk V W) {n : Nat} (hn : n ≤ w_k_qc V) : w_k_lk V (w_k_cs V W b n) := by
  intro j hj
  rw [w_cs_at n (fun q hq => hj q (by omega))]; exact h j hj
theorem w_lk_rfl {V : w_k_V} : w_k_lk V V := fun _ _ => rfl
theorem w_k_sl_r {n q : Nat} {V : w_k_V} (H : w_k_Vok n V) (hq : q < w_k_qc V) : w_k_sl V q = 2 ∨ w_k_sl V q = 3 ∨ (17 ≤ w_k_sl V q ∧ w_k_sl V q < 166) := by
  obtain ⟨c1, c2, c3, c4⟩ := H.2.2.2.2.2.2.2.2.2.1 q hq
  unfold w_k_sl
  by_cases h4 : V (170 + 3 * q) = 4
  · rw [if_pos h4]; exact Or.inl rfl
  · rw [if_neg h4]
    by_cases h5 : V (170 + 3 * q) = 5
    · rw [if_pos h5]; exact Or.inr (Or.inl rfl)
    · rw [if_neg h5]
      have h3 : w_k_wi (V (170 + 3 * q)) 0 3 := ((w_k_wi4.1 c1).elim id (fun h => absurd h (by rintro (h | h); exact h4 h; exact h5 h)))
      obtain ⟨i, hi, hie⟩ := w_k_iL 3 h3 rfl (by omega)
      obtain ⟨k, hk, hk3, hke⟩ := w_k_hx H (c2 (w_k_wi3l h3).1)
      rw [hie, hke, w_k_nat (by omega), w_k_nat (by omega)]
      omega
theorem w_lk_n {n j : Nat} {V W : w_k_V} (H : w_k_Vok n V) (h : w_k_lk V W) (hj : j ≤ 1 ∨ (4 ≤ j ∧ j < 17) ∨ 166 ≤ j) : W j = V j :=
  h j (fun q hq => by have := w_k_sl_r H hq; omega)
theorem w_lk_qc {n : Nat} {V W : w_k_V} (H : w_k_Vok n V) (h : w_k_lk V W) : w_k_qc W = w_k_qc V := congrArg Int32.toNatClampNeg (w_lk_n H h (by omega))
theorem w_v_cs {n b : Nat} {V W : w_k_V} (H : w_k_Vok n V) (h : w_k_lk V W) (hW : w_k_Vok n W) : ∀ m, m ≤ w_k_qc V → w_k_Vok n (w_k_cs V W b m)
  | 0, _ => hW
  | m + 1, hm => by
    have ih := w_v_cs (b := b) H h hW m (by omega)
    obtain ⟨c1, c2, c3, c4⟩ := H.2.2.2.2.2.2.2.2.2.1 m (by omega)
    have hl := w_cs_lk (b := b) h (n := m) (by omega)
    show w_k_Vok n (upd (w_k_cs V W b m) (w_k_sl V m) (w_k_sv V m (w_q_b (b.testBit m))))
    rw [← w_k_tq_sl]
    exact w_v_tq ih w_k_isq c1 (fun g => by rw [w_lk_n H hl (by omega)]; exact c2 g) c3 c4 H.2.2.2.1 H.2.2.2.2.1
theorem w_k_bitq : ∀ b, b < 256 → ∀ q, q < 8 → (if (((nI b) >>> (nI q &&& 31)) &&& 1) = 1 then (1 : Int32) else 0) = w_q_b (b.testBit q) := by decide +kernel
theorem w_k_bitd {b q : Nat} (hb : b < 256) (hq : q < 8) : ((((nI b) >>> (nI q &&& 31)) &&& 1) = 1) ↔ b.testBit q = true := by
  have := w_k_bitq b hb q hq
  by_cases h : (((nI b) >>> (nI q &&& 31)) &&& 1) = 1
  · rw [if_pos h] at this
    cases hb : b.testBit q with
    | true => exact ⟨fun _ => rfl, fun _ => h⟩
    | false => rw [hb] at this; exact absurd this (by decide)
  · rw [if_neg h] at this
    cases hb : b.testBit q with
    | false => exact ⟨fun g => absurd g h, fun g => absurd g (by decide)⟩
    | true => rw [hb] at this; exact absurd this (by decide)
theorem w_k_sh1 : ∀ q, q < 9 → (1 : Int32) <<< (nI q &&& 31) = nI (2 ^ q) := by decide +kernel
theorem w_k_p8 {q : Nat} (h : q ≤ 8) : 2 ^ q ≤ 256 ∧ 1 ≤ 2 ^ q := ⟨show 2 ^ q ≤ 2 ^ 8 from Nat.pow_le_pow_right (by omega) h, Nat.one_le_two_pow⟩
section CC
variable {s : g_S} {V W : w_k_V} {L : w_q_L} {n b : Nat}
theorem w_e7_2 (H : w_k_Vok n V) (hl : w_k_lk V W) (hW : w_k_Vok n W) (hb : b < 256) : ∀ d m t, m + d = w_k_qc V → w_k_CV t 49 (w_k_cs V W b m) → w_k_CV t 22 V →
    ∃ u, f7_2L t 49 22 (nI b) (nI m) = some u ∧ w_k_CV u 49 (w_k_cs V W b (w_k_qc V)) ∧ ∀ y, ¬ (49 ≤ y ∧ y < 76) → u y = t y
  | 0, m, t, e, hC, hV => by
    have hbd := w_k_Vb H
    have e' : m = w_k_qc V := by omega
    subst e'
    rw [f7_2L_eq]; unfold f7_2
    rw [hC.1.2.2.2.2.2.1, w_lk_n H (w_cs_lk hl (Nat.le_refl _)) (by omega), w_k_qcI H, if_neg (w_k_nlt (by omega) (by omega) (by omega))]
    exact ⟨t, rfl, hC, fun _ _ => rfl⟩
  | d + 1, m, t, e, hC, hV => by
    have hbd := w_k_Vb H
    have hlm := w_cs_lk (b := b) hl (n := m) (by omega)
    have hVm := w_v_cs (b := b) H hl hW m (by omega)
    have hqm := w_lk_qc H hlm
    obtain ⟨c1, c2, c3, c4⟩ := H.2.2.2.2.2.2.2.2.2.1 m (by omega)
    have x : ∀ i, i < 3 → t (49 + 19 + m) i = V (170 + 3 * m + i) := fun i hi => by rw [hC.2.2.1 m i (by omega) hi, w_lk_n H hlm (by omega)]
    rw [f7_2L_eq]; unfold f7_2
    rw [hC.1.2.2.2.2.2.1, w_lk_n H hlm (by omega), w_k_qcI H, if_pos ((w_k_lt (by omega) (by omega)).2 (by omega)), if_pos ((w_k_inI (by omega)).2 (by omega)), w_k_nat (by omega)]
    have key : ∀ w : Bool, w = b.testBit m → ∃ u, g_st (f7_21 t 49 22 (nI b) (nI m) (49 + 19 + m) (w_q_b w)) (fun S => f7_2L S.2 49 22 (nI b) S.1) = some u ∧ w_k_CV u 49 (w_k_cs V W b (w_k_qc V)) ∧ ∀ y, ¬ (49 ≤ y ∧ y < 76) → u y = t y := by
      intro w hw
      unfold f7_21
      obtain ⟨u, q1, q2, q3⟩ := w_e8 (b := w_q_b w) (x := 49 + 19 + m) (c3 := 22) (q := V (170 + 3 * m)) (h := V (171 + 3 * m)) (o := V (172 + 3 * m)) (h0 := V 2) (d0 := V 3) hVm hC w_k_isq c1 (fun g => by rw [w_lk_n H hlm (by omega)]; exact c2 g)
        (x 0 (by omega)) ((x 1 (by omega)).trans (congrArg V (by omega))) ((x 2 (by omega)).trans (congrArg V (by omega))) hV.1.2.2.1 hV.1.2.2.2.1
      rw [q1, w_k_bs, w_k_s1]
      rw [w_k_tq_sl, hw] at q2
      obtain ⟨z, r1, r2, r3⟩ := w_e7_2 H hl hW hb d (m + 1) u (by omega) q2 (w_k_CV_cg hV hbd.1 hbd.2.1 (fun y h1 h2 => q3 y (by omega) (by omega)))
      exact ⟨z, r1, r2, fun y hy => by rw [r3 y hy, q3 y (by omega) (by omega)]⟩
    by_cases hbit : (((nI b) >>> (nI m &&& 31)) &&& 1) = 1
    · rw [if_pos hbit]
      exact key true ((w_k_bitd hb (by omega)).1 hbit).symm
    · rw [if_neg hbit]
      refine key false ?_
      cases h : b.testBit m with
      | false => rfl
      | true => exact absurd ((w_k_bitd hb (by omega)).2 h) hbit
theorem w_e7 (H : w_k_Vok n V) (hl : w_k_lk V W) (hW : w_k_Vok n W) (hb : b < 256) (hC : w_k_CV s 49 W) (hV : w_k_CV s 22 V) :
    ∃ u, f7 s 49 22 (nI b) = some u ∧ w_k_CV u 49 (w_k_cs V V b (w_k_qc V)) ∧ ∀ y, ¬ (49 ≤ y ∧ y < 76) → u y = s y := by
  unfold f7
  rw [← w_cs_eq hl]
  exact w_e7_2 H hl hW hb (w_k_qc V) 0 s (by omega) hC hV
end CC
def w_o_cb (A : w_k_A) (b h : Nat) : Int32 := w_o_bears (w_k_cs A.2.2.2.1 A.2.2.2.1 b (w_k_qc A.2.2.2.1)) (w_a_inf A) h
theorem w_c_125 {s : g_S} {A : w_k_A} (hA : w_k_Aok A) (H : w_k_CI s A) : f125 s = some (nI (2 ^ w_k_qc A.2.2.2.1)) := by
  have hb := w_k_Vb hA.2.2.2.1
  unfold f125
  rw [H.2.2.2.2.1.1.2.2.2.2.2.1, w_k_qcI hA.2.2.2.1, w_k_sh1 _ (by omega)]
theorem w_c_case {s : g_S} {A : w_k_A} {W : w_k_V} {b : Nat} (hA : w_k_Aok A) (H : w_k_CI s A) (hl : w_k_lk A.2.2.2.1 W) (hW : w_k_Vok A.2.2.1.length W) (hC : w_k_CV s 49 W) (hb : b < 256) :
    ∃ u l v, f7 s 49 22 (nI b) = some u ∧ f120 u = some l ∧ g_lay l = o_4 l ∧ f10 u 49 l = some v ∧ w_k_CI v A ∧ w_k_CV v 49 (w_k_cs A.2.2.2.1 A.2.2.2.1 b (w_k_qc A.2.2.2.1)) ∧ (∀ h, h < 13 → v 81 h = w_o_cb A b h) ∧ v 85 = s 85 ∧ ∀ y, 199 ≤ y → v y = s y := by
  have hV := hA.2.2.2.1
  obtain ⟨u, p1, p2, p3⟩ := w_e7 hV hl hW hb hC H.2.2.2.2.1
  have hCu : w_k_CI u A := w_k_CI_cg hA (fun x hx hs => p3 x (by unfold w_k_sC at hs; omega)) H
  obtain ⟨l, h1, h2, h3, h4, h5, h6⟩ := w_c_inf hA hCu
  have hVb := w_v_cs (b := b) hV w_lk_rfl hV (w_k_qc A.2.2.2.1) (Nat.le_refl _)
  have hbb := w_k_Vb hVb
  obtain ⟨v, q1, q2, q3⟩ := w_e10 hVb p2 h3 (Or.inr rfl) h4
  have hl7 : ¬ (49 ≤ l + 7 ∧ l + 7 < 76) := by omega
  refine ⟨u, l, v, p1, h1, h2, q1, w_k_CI_cg hA (fun x hx hs => q3 x ?_ ?_) hCu, w_k_CV_cg p2 hbb.1 hbb.2.1 (fun y g1 g2 => q3 y (by omega) (by omega)), fun h hh => (q2.2 h hh).2.2.2.1, ?_, fun y hy => ?_⟩
  · unfold w_k_sC at hs; omega
  · intro e; exact hs (e ▸ h5)
  · rw [q3 85 (by omega) (by omega), p3 85 (by omega)]
  · rw [q3 y (by omega) (by omega), p3 y (by omega)]
def w_a_two2 (A : w_k_A) (p : Int32) (c : Prop) [Decidable c] (v : Int32) : Int32 ⊕ Nat := w_a_two' A p c v
def w_a_inCase (A : w_k_A) (b p : Int32) : Int32 ⊕ Nat := w_a_two' A p (w_k_wi b 0 (nI (2 ^ w_k_qc A.2.2.2.1) - 1)) (w_o_cb A b.toNatClampNeg p.toNatClampNeg)
theorem w_c_inCase {s : g_S} {A : w_k_A} {b p : Int32} (hA : w_k_Aok A) (H : w_k_CI s A) : w_k_cop s (f99 s b p) (w_a_inCase A b p) A := by
  have hV := hA.2.2.2.1
  have hbd := w_k_Vb hV
  have hp := w_k_p8 hbd.2.1
  have ex : f99 s b p = g_tb (f117 s p) fun _ s2 => (f118 s2 b (nI (2 ^ w_k_qc A.2.2.2.1) - 1)).bind fun v4 => g_tb (f116 s2 v4) fun _ s6 => (f1 s6 49 22).bind fun s8 => (f7 s8 49 22 b).bind fun s10 => (f120 s10).bind fun v11 => if g_lay v11 = o_4 v11 then (f10 s10 49 v11).bind fun s14 => if m_in p 13 = true then some ((.inl (s14 81 p.toNatClampNeg), s14)) else none else none := by
    unfold f99
    have hv := H.2.2.2.2.1
    by_cases h1 : w_k_wi p 0 (A.2.2.2.1 0 - 1)
    · rw [w_e117t (by rw [hv.1.1]; exact h1), w_k_tbl, w_k_tbl, w_c_125 hA H, w_k_bs]
    · rw [w_e117f (by rw [hv.1.1]; exact h1), w_k_tbr, w_k_tbr]
  refine w_c_two' hA H ex (fun k hk hk3 e h => ?_)
  clear ex
  obtain ⟨i, hi, rfl⟩ := w_k_i1 rfl (by omega) h
  subst e
  obtain ⟨t, p1, p2, p3⟩ := w_e1 (s := s) (c0 := 49) (c1 := 22) H.2.2.2.2.1 hV (by omega)
  have hCt : w_k_CI t A := w_k_CI_cg hA (fun x hx hs => p3 x (by unfold w_k_sC at hs; omega)) H
  obtain ⟨u, l, v, q1, q2, q3, q4, q5, q6, q7, q8, q9⟩ := w_c_case (b := i) hA hCt w_lk_rfl hV p2 (by omega)
  have ei : (nI i).toNatClampNeg = i := w_k_nat (by omega)
  have ek : (nI k).toNatClampNeg = k := w_k_nat (by omega)
  rw [p1, w_k_bs, q1, w_k_bs, q2, w_k_bs, if_pos q3, q4, w_k_bs, if_pos (w_k_hin hk3), ei, ek, q7 k hk3]
  exact w_ok_some ⟨rfl, q5, fun y hy => by dsimp only; rw [q9 y hy, p3 y (by omega)]⟩
theorem w_c_126_7 {A : w_k_A} (hA : w_k_Aok A) : ∀ d m t W, m + d = 2 ^ w_k_qc A.2.2.2.1 → w_k_CI t A → w_k_lk A.2.2.2.1 W → w_k_Vok A.2.2.1.length W → w_k_CV t 49 W → (∀ b h, b < m → h < 13 → t 85 (13 * b + h) = w_o_cb A b h) →
    ∃ u, f126_7L t (nI m) = some u ∧ w_k_CI u A ∧ (∀ b h, b < 2 ^ w_k_qc A.2.2.2.1 → h < 13 → u 85 (13 * b + h) = w_o_cb A b h) ∧ ∀ y, 199 ≤ y → u y = t y
  | 0, m, t, W, e, hC, hl, hW, hCW, h85 => by
    have hbd := w_k_Vb hA.2.2.2.1
    have hp := w_k_p8 hbd.2.1
    have e' : m = 2 ^ w_k_qc A.2.2.2.1 := by omega
    subst e'
    rw [f126_7L_eq]; unfold f126_7
    rw [w_c_125 hA hC, w_k_bs, if_neg (w_k_nlt (by omega) (by omega) (by omega))]
    exact ⟨t, rfl, hC, h85, fun _ _ => rfl⟩
  | d + 1, m, t, W, e, hC, hl, hW, hCW, h85 => by
    have hV := hA.2.2.2.1
    have hbd := w_k_Vb hA.2.2.2.1
    have hp := w_k_p8 hbd.2.1
    rw [f126_7L_eq]; unfold f126_7
    obtain ⟨u, l, v, q1, q2, q3, q4, q5, q6, q7, q8, q9⟩ := w_c_case (b := m) hA hC hl hW hCW (by omega)
    have w_e13 : nI m * 13 = nI (m * 13) := w_k_mul m 13
    rw [w_c_125 hA hC, w_k_bs, if_pos ((w_k_lt (by omega) (by omega)).2 (by omega)), q1, w_k_bs, q2, w_k_bs, if_pos q3, q4, w_k_bs, w_e13, w_k_nat (by omega),
      if_pos ⟨by decide, w_k_nlt (b := 0) (by omega) (by omega) (by omega), by decide, by omega, by omega⟩, w_k_let, w_k_s1]
    have hVb := w_v_cs (b := m) hV w_lk_rfl hV (w_k_qc A.2.2.2.1) (Nat.le_refl _)
    have hbb := w_k_Vb hVb
    have hl2 : w_k_lk A.2.2.2.1 (w_k_cs A.2.2.2.1 A.2.2.2.1 m (w_k_qc A.2.2.2.1)) := w_cs_lk w_lk_rfl (Nat.le_refl _)
    obtain ⟨z, r1, r2, r3, r4⟩ := w_c_126_7 hA d (m + 1) (g_wa v 85 (va_cpy (v 81) (v 85) 0 (m * 13) 13)) _ (by omega) (w_k_CI_cg hA (fun x hx hs => w_k_wan (by intro e; exact hs (by rw [e]; unfold w_k_sC; omega))) q5) hl2 hVb
      (w_k_CV_cg q6 hbb.1 hbb.2.1 (fun y g1 g2 => w_k_wan (by omega))) (fun b h hb hh => by
        rw [w_k_wae]
        unfold va_cpy
        by_cases e : b = m
        · subst e
          rw [if_pos (by omega), ← q7 h hh]; congr 1; omega
        · rw [if_neg (by omega), q8]; exact h85 b h (by omega) hh)
    exact ⟨z, r1, r2, r3, fun y hy => by rw [r4 y hy, w_k_wan (by omega), q9 y hy]⟩
theorem w_c_126 {s : g_S} {A : w_k_A} (hA : w_k_Aok A) (H : w_k_CI s A) : ∃ u, f126 s = some u ∧ w_k_CI u A ∧ (∀ b h, b < 2 ^ w_k_qc A.2.2.2.1 → h < 13 → u 85 (13 * b + h) = w_o_cb A b h) ∧ ∀ y, 199 ≤ y → u y = s y := by
  have hV := hA.2.2.2.1
  obtain ⟨t, p1, p2, p3⟩ := w_e1 (s := s) (c0 := 49) (c1 := 22) H.2.2.2.2.1 hV (by omega)
  have hCt : w_k_CI t A := w_k_CI_cg hA (fun x hx hs => p3 x (by unfold w_k_sC at hs; omega)) H
  unfold f126
  rw [p1, w_k_bs]
  obtain ⟨u, q1, q2, q3, q4⟩ := w_c_126_7 hA (2 ^ w_k_qc A.2.2.2.1) 0 t A.2.2.2.1 (by omega) hCt w_lk_rfl hV p2 (fun b h hb => absurd hb (by omega))
  exact ⟨u, q1, q2, q3, fun y hy => by rw [q4 y hy, p3 y (by omega)]⟩
