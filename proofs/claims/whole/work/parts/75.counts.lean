/-! counts over cases -/
def w_o_cn (f : Nat → Bool) : Nat → Nat
  | 0 => 0
  | n + 1 => w_o_cn f n + (if f n = true then 1 else 0)
theorem w_o_cn_le (f : Nat → Bool) : ∀ n, w_o_cn f n ≤ n
  | 0 => Nat.le_refl _
  | n + 1 => by unfold w_o_cn; have := w_o_cn_le f n; split <;> omega
theorem w_o_cn_not (f : Nat → Bool) : ∀ n, w_o_cn f n + w_o_cn (fun b => !f b) n = n
  | 0 => rfl
  | n + 1 => by
    unfold w_o_cn
    have := w_o_cn_not f n
    cases f n
    · simp; omega
    · simp; omega
def w_o_f (A : w_k_A) (k b : Nat) : Bool := decide (0 < w_o_cb A b k)
def w_o_g (A : w_k_A) (k q b : Nat) : Bool := w_o_f A k b == b.testBit q
section CN
variable {u : g_S} {A : w_k_A} {k : Nat}
theorem w_c_127 (hA : w_k_Aok A) (hu : ∀ b h, b < 2 ^ w_k_qc A.2.2.2.1 → h < 13 → u 85 (13 * b + h) = w_o_cb A b h) (hk : k < 13) {m : Nat} (hm : m < 2 ^ w_k_qc A.2.2.2.1) : f127 u (nI k) (nI m) = some (w_q_b (w_o_f A k m)) := by
  have hbd := w_k_Vb hA.2.2.2.1
  have hp := w_k_p8 hbd.2.1
  unfold f127 w_o_f
  have e : (nI m * 13 + nI k : Int32) = nI (m * 13 + k) := by rw [show (nI m * 13 : Int32) = nI (m * 13) from w_k_mul m 13, w_k_add]
  rw [e, if_pos ((w_k_inI (by omega)).2 (by omega)), w_k_nat (by omega), show m * 13 + k = 13 * m + k by omega, hu m k hm hk]
  by_cases h : 0 < w_o_cb A m k
  · rw [if_pos h, decide_eq_true h]; rfl
  · rw [if_neg h, decide_eq_false h]; rfl
theorem w_c_128_4 (hA : w_k_Aok A) (hC : w_k_CI u A) (hu : ∀ b h, b < 2 ^ w_k_qc A.2.2.2.1 → h < 13 → u 85 (13 * b + h) = w_o_cb A b h) (hk : k < 13) : ∀ d m, m + d = 2 ^ w_k_qc A.2.2.2.1 → f128_4L u (nI k) (nI (w_o_cn (w_o_f A k) m)) (nI m) = some (nI (w_o_cn (w_o_f A k) (2 ^ w_k_qc A.2.2.2.1)))
  | 0, m, e => by
    have hbd := w_k_Vb hA.2.2.2.1
    have hp := w_k_p8 hbd.2.1
    have e' : m = 2 ^ w_k_qc A.2.2.2.1 := by omega
    subst e'
    rw [f128_4L_eq]; unfold f128_4
    rw [w_c_125 hA hC, w_k_bs, if_neg (w_k_nlt (by omega) (by omega) (by omega))]; rfl
  | d + 1, m, e => by
    have hbd := w_k_Vb hA.2.2.2.1
    have hp := w_k_p8 hbd.2.1
    have ih := w_c_128_4 hA hC hu hk d (m + 1) (by omega)
    rw [show w_o_cn (w_o_f A k) (m + 1) = w_o_cn (w_o_f A k) m + (if w_o_f A k m = true then 1 else 0) from rfl] at ih
    rw [f128_4L_eq]; unfold f128_4
    rw [w_c_125 hA hC, w_k_bs, if_pos ((w_k_lt (by omega) (by omega)).2 (by omega)), w_c_127 hA hu hk (by omega), w_k_bs, w_k_s1, w_k_s1]
    cases hf : w_o_f A k m with
    | false => rw [hf, if_neg (by decide)] at ih; rw [if_pos (show w_q_b false = 0 from rfl)]; exact ih
    | true => rw [hf, if_pos rfl] at ih; rw [if_neg (by decide)]; exact ih
theorem w_c_129_4 (hA : w_k_Aok A) (hC : w_k_CI u A) (hu : ∀ b h, b < 2 ^ w_k_qc A.2.2.2.1 → h < 13 → u 85 (13 * b + h) = w_o_cb A b h) (hk : k < 13) {q : Nat} (hq : q < 8) : ∀ d m, m + d = 2 ^ w_k_qc A.2.2.2.1 → f129_4L u (nI k) (nI q) (nI (w_o_cn (w_o_g A k q) m)) (nI m) = some (nI (w_o_cn (w_o_g A k q) (2 ^ w_k_qc A.2.2.2.1)))
  | 0, m, e => by
    have hbd := w_k_Vb hA.2.2.2.1
    have hp := w_k_p8 hbd.2.1
    have e' : m = 2 ^ w_k_qc A.2.2.2.1 := by omega
    subst e'
    rw [f129_4L_eq]; unfold f129_4
    rw [w_c_125 hA hC, w_k_bs, if_neg (w_k_nlt (by omega) (by omega) (by omega))]; rfl
  | d + 1, m, e => by
    have hbd := w_k_Vb hA.2.2.2.1
    have hp := w_k_p8 hbd.2.1
    have ih := w_c_129_4 hA hC hu hk hq d (m + 1) (by omega)
    rw [show w_o_cn (w_o_g A k q) (m + 1) = w_o_cn (w_o_g A k q) m + (if w_o_g A k q m = true then 1 else 0) from rfl] at ih
    rw [f129_4L_eq]; unfold f129_4
    rw [w_c_125 hA hC, w_k_bs, if_pos ((w_k_lt (by omega) (by omega)).2 (by omega)), w_c_127 hA hu hk (by omega), w_k_bs]
    have hbit := w_k_bitd (b := m) (q := q) (by omega) hq
    have go : ∀ w : Bool, w = m.testBit q → g_st (f129_22 u (nI k) (nI q) (nI (w_o_cn (w_o_g A k q) m)) (nI m) (w_q_b (w_o_f A k m)) (w_q_b w)) (fun S => f129_4L u (nI k) (nI q) S.1 S.2) = some (nI (w_o_cn (w_o_g A k q) (2 ^ w_k_qc A.2.2.2.1))) := by
      intro w hw
      unfold f129_22
      rw [w_k_s1, w_k_s1]
      have hg : w_o_g A k q m = (w_o_f A k m == w) := by rw [hw]; rfl
      rw [hg] at ih
      cases hf : w_o_f A k m <;> cases w <;> rw [hf] at ih
      · rw [if_pos (by decide)] at ih; rw [if_pos rfl]; exact ih
      · rw [if_neg (by decide)] at ih; rw [if_neg (by decide)]; exact ih
      · rw [if_neg (by decide)] at ih; rw [if_neg (by decide)]; exact ih
      · rw [if_pos (by decide)] at ih; rw [if_pos rfl]; exact ih
    by_cases h : (((nI m) >>> (nI q &&& 31)) &&& 1) = 1
    · rw [if_pos h]; exact go true (hbit.1 h).symm
    · rw [if_neg h]
      refine go false ?_
      cases h2 : m.testBit q with
      | false => rfl
      | true => exact absurd (hbit.2 h2) h
theorem w_m_195 (hA : w_k_Aok A) (hM : w_k_MV u A.2.2.2.1) : f195 u = some (nI (2 ^ w_k_qc A.2.2.2.1)) := by
  have hb := w_k_Vb hA.2.2.2.1
  unfold f195
  rw [hM.1.2.2.2.2.2.1, w_k_qcI hA.2.2.2.1, w_k_sh1 _ (by omega)]
theorem w_m_198_6 (hA : w_k_Aok A) (hM : w_k_MV u A.2.2.2.1) (hu : ∀ b h, b < 2 ^ w_k_qc A.2.2.2.1 → h < 13 → u (283 + b) h = w_o_cb A b h) (hk : k < 13) : ∀ d m, m + d = 2 ^ w_k_qc A.2.2.2.1 → f198_6L u (nI k) (nI (w_o_cn (w_o_f A k) m)) (nI m) = some (nI (w_o_cn (w_o_f A k) (2 ^ w_k_qc A.2.2.2.1)), u)
  | 0, m, e => by
    have hbd := w_k_Vb hA.2.2.2.1
    have hp := w_k_p8 hbd.2.1
    have e' : m = 2 ^ w_k_qc A.2.2.2.1 := by omega
    subst e'
    rw [f198_6L_eq]; unfold f198_6
    rw [w_m_195 hA hM, w_k_bs, if_neg (w_k_nlt (by omega) (by omega) (by omega))]; rfl
  | d + 1, m, e => by
    have hbd := w_k_Vb hA.2.2.2.1
    have hp := w_k_p8 hbd.2.1
    have ih := w_m_198_6 hA hM hu hk d (m + 1) (by omega)
    rw [show w_o_cn (w_o_f A k) (m + 1) = w_o_cn (w_o_f A k) m + (if w_o_f A k m = true then 1 else 0) from rfl] at ih
    rw [f198_6L_eq]; unfold f198_6
    rw [w_m_195 hA hM, w_k_bs, if_pos ((w_k_lt (by omega) (by omega)).2 (by omega)), if_pos ((w_k_inI (by omega)).2 (by omega)), if_pos (w_k_hin hk), w_k_nat (by omega), w_k_nat (by omega), hu m k (by omega) hk, w_k_s1, w_k_s1]
    by_cases hf : 0 < w_o_cb A m k
    · have hf2 : w_o_f A k m = true := decide_eq_true hf
      rw [hf2, if_pos rfl] at ih; rw [if_pos hf]; exact ih
    · have hf2 : w_o_f A k m = false := decide_eq_false hf
      rw [hf2, if_neg (by decide)] at ih; rw [if_neg hf, show nI (w_o_cn (w_o_f A k) m) + 0 = nI (w_o_cn (w_o_f A k) m + 0) from w_k_add _ 0]; exact ih
end CN
def w_o_sure (A : w_k_A) (k : Nat) : Int32 := if w_o_cn (w_o_f A k) (2 ^ w_k_qc A.2.2.2.1) = 2 ^ w_k_qc A.2.2.2.1 then 2 else if 0 < w_o_cn (w_o_f A k) (2 ^ w_k_qc A.2.2.2.1) then 1 else 0
def w_a_sure (A : w_k_A) (p : Int32) : Int32 ⊕ Nat := w_a_one A p (w_o_sure A p.toNatClampNeg)
def w_a_cases (A : w_k_A) (p : Int32) : Int32 ⊕ Nat := w_a_one A p (nI (w_o_cn (w_o_f A p.toNatClampNeg) (2 ^ w_k_qc A.2.2.2.1)))
theorem w_c_cases {s : g_S} {A : w_k_A} {p : Int32} (hA : w_k_Aok A) (H : w_k_CI s A) : w_k_cop s (f101 s p) (w_a_cases A p) A := by
  refine w_c_one hA H (y := fun s2 => (f126 s2).bind fun s4 => (f128 s4 p).bind fun v5 => some ((.inl v5, s4))) (by unfold f101; rfl) (fun k hk hk3 e => ?_)
  subst e
  obtain ⟨u, h1, h2, h3, h4⟩ := w_c_126 hA H
  have h5 : f128 u (nI k) = some (nI (w_o_cn (w_o_f A k) (2 ^ w_k_qc A.2.2.2.1))) := by unfold f128; exact w_c_128_4 hA h2 h3 hk3 (2 ^ w_k_qc A.2.2.2.1) 0 (by omega)
  have ek : (nI k).toNatClampNeg = k := w_k_nat (by omega)
  rw [h1, w_k_bs, h5, w_k_bs, ek]
  exact w_ok_some ⟨rfl, h2, h4⟩
theorem w_c_sure {s : g_S} {A : w_k_A} {p : Int32} (hA : w_k_Aok A) (H : w_k_CI s A) : w_k_cop s (f100 s p) (w_a_sure A p) A := by
  have hbd := w_k_Vb hA.2.2.2.1
  have hp := w_k_p8 hbd.2.1
  refine w_c_one hA H (y := fun s2 => (f126 s2).bind fun s4 => (f128 s4 p).bind fun v5 => (f125 s4).bind fun v6 => if v5 = v6 then (some ((.inl 2, s4))) else (if 0 < v5 then (some ((.inl 1, s4))) else (some ((.inl 0, s4))))) (by unfold f100; rfl) (fun k hk hk3 e => ?_)
  subst e
  obtain ⟨u, h1, h2, h3, h4⟩ := w_c_126 hA H
  have h5 : f128 u (nI k) = some (nI (w_o_cn (w_o_f A k) (2 ^ w_k_qc A.2.2.2.1))) := by unfold f128; exact w_c_128_4 hA h2 h3 hk3 (2 ^ w_k_qc A.2.2.2.1) 0 (by omega)
  have ek : (nI k).toNatClampNeg = k := w_k_nat (by omega)
  have hle := w_o_cn_le (w_o_f A k) (2 ^ w_k_qc A.2.2.2.1)
  rw [h1, w_k_bs, h5, w_k_bs, w_c_125 hA h2, w_k_bs, ek]
  unfold w_o_sure
  by_cases g1 : w_o_cn (w_o_f A k) (2 ^ w_k_qc A.2.2.2.1) = 2 ^ w_k_qc A.2.2.2.1
  · rw [if_pos (congrArg nI g1), if_pos g1]; exact w_ok_some ⟨rfl, h2, h4⟩
  · rw [if_neg (fun e => g1 ((w_k_eq (by omega) (by omega)).1 e)), if_neg g1]
    by_cases g2 : 0 < w_o_cn (w_o_f A k) (2 ^ w_k_qc A.2.2.2.1)
    · rw [if_pos (show (0 : Int32) < nI _ from (w_k_lt (a := 0) (by omega) (by omega)).2 g2), if_pos g2]; exact w_ok_some ⟨rfl, h2, h4⟩
    · rw [if_neg (show ¬ (0 : Int32) < nI _ from w_k_nlt (a := 0) (by omega) (by omega) g2), if_neg g2]; exact w_ok_some ⟨rfl, h2, h4⟩
theorem w_m_inCase {TR : w_k_TR} {s : g_S} {A : w_k_A} {b p : Int32} (hT : w_k_HH TR) (hA : w_k_Aok A) (H : w_k_MI TR s A) : w_k_mop TR w_k_cB s (f197 s b p) (w_a_inCase A b p) A := by
  have hbd := w_k_Vb hA.2.2.2.1
  have hp := w_k_p8 hbd.2.1
  refine w_m_two' hA H (y := f197_26 (g_w s 199 0 0) b p 0) (z := f197_26 (g_w s 199 0 0) b p 1) ?_ ?_ (fun k hk hk3 e h => ?_)
  · unfold f197; rw [w_k_let, w_e173, w_k_mh H, w_k_bs]
    have hl : f197_11 (g_w s 199 0 0) b p 0 = if w_k_wi b 0 (nI (2 ^ w_k_qc A.2.2.2.1) - 1) then f197_26 (g_w s 199 0 0) b p 0 else f197_26 (g_w s 199 0 0) b p 1 := by
      unfold f197_11
      rw [w_e134o w_k_00, w_k_bd, if_pos rfl, w_m_195 hA (w_k_M0 H.2.2.2.1), w_k_bs, w_e135, w_k_bs]
      by_cases hd : w_k_wi b 0 (nI (2 ^ w_k_qc A.2.2.2.1) - 1)
      · rw [w_k_ift hd, if_pos hd, if_neg w_k_01]
      · rw [w_k_iff hd, if_neg hd, if_pos rfl]
    by_cases hc : w_k_wi p 0 (A.2.2.2.1 0 - 1)
    · rw [w_k_ift hc, if_neg w_k_01, if_pos hc]; exact hl
    · rw [w_k_iff hc, if_pos rfl, if_neg hc]
      unfold f197_11
      rw [w_e134b w_k_00 w_k_01, w_k_bd, if_neg w_k_01]
  · unfold f197_26; rw [w_e134b w_k_00 w_k_02]; rfl
  obtain ⟨i, hi, rfl⟩ := w_k_i1 rfl (by omega) h
  subst e
  obtain ⟨u, h1, h2, h3, h4, h5⟩ := w_m_196 hT hA H
  have ei : (nI i).toNatClampNeg = i := w_k_nat (by omega)
  have ek : (nI k).toNatClampNeg = k := w_k_nat (by omega)
  unfold f197_26
  rw [w_e134o w_k_00, w_k_bd, if_pos rfl, h1, w_k_bs, if_pos ((w_k_inI (by omega)).2 (by omega)), if_pos (w_k_hin hk3), ei, ek, h5 i k hi hk3]
  exact w_m_scr2 hA H h2 h3
theorem w_m_198 {TR : w_k_TR} {s : g_S} {A : w_k_A} {k : Nat} (hT : w_k_HH TR) (hA : w_k_Aok A) (H : w_k_MI TR s A) (hk : k < 13) : ∃ u, f198 (g_w s 199 0 0) (nI k) = some (nI (w_o_cn (w_o_f A k) (2 ^ w_k_qc A.2.2.2.1)), u) ∧ w_k_eM s u ∧ u 199 0 = 0 ∧ w_k_MV u A.2.2.2.1 := by
  obtain ⟨u, h1, h2, h3, h4, h5⟩ := w_m_196 hT hA H
  unfold f198
  rw [h1, w_k_bs]
  exact ⟨u, w_m_198_6 hA h4 h5 hk (2 ^ w_k_qc A.2.2.2.1) 0 (by omega), h2, h3, h4⟩
theorem w_m_cases {TR : w_k_TR} {s : g_S} {A : w_k_A} {p : Int32} (hT : w_k_HH TR) (hA : w_k_Aok A) (H : w_k_MI TR s A) : w_k_mop TR w_k_cN s (f200 s p) (w_a_cases A p) A := by
  by_cases hc : w_k_wi p 0 (A.2.2.2.1 0 - 1)
  · obtain ⟨k, hk, hk3, rfl⟩ := w_k_hx hA.2.2.2.1 hc
    obtain ⟨u, h1, h2, h3, h4⟩ := w_m_198 hT hA H hk3
    have ek : (nI k).toNatClampNeg = k := w_k_nat (by omega)
    unfold f200 w_a_cases w_a_one
    rw [w_k_let, w_e173, w_k_mh H, w_k_bs, w_k_ift hc, if_neg w_k_01, if_pos hc]
    unfold f200_11
    rw [w_e134o w_k_00, w_k_bd, if_pos rfl, h1, ek]
    exact w_m_scr2 hA H h2 h3
  · unfold f200 w_a_cases w_a_one
    rw [w_k_let, w_e173, w_k_mh H, w_k_bs, w_k_iff hc, if_pos rfl, if_neg hc]
    unfold f200_11
    rw [w_e134b w_k_00 w_k_01, w_k_bd, if_neg w_k_01]
    exact w_m_ref hA H rfl
theorem w_m_sure {TR : w_k_TR} {s : g_S} {A : w_k_A} {p : Int32} (hT : w_k_HH TR) (hA : w_k_Aok A) (H : w_k_MI TR s A) : w_k_mop TR w_k_cN s (f199 s p) (w_a_sure A p) A := by
  have hbd := w_k_Vb hA.2.2.2.1
  have hp := w_k_p8 hbd.2.1
  by_cases hc : w_k_wi p 0 (A.2.2.2.1 0 - 1)
  · obtain ⟨k, hk, hk3, rfl⟩ := w_k_hx hA.2.2.2.1 hc
    obtain ⟨u, h1, h2, h3, h4⟩ := w_m_198 hT hA H hk3
    have ek : (nI k).toNatClampNeg = k := w_k_nat (by omega)
    have hle := w_o_cn_le (w_o_f A k) (2 ^ w_k_qc A.2.2.2.1)
    unfold f199 w_a_sure w_a_one
    rw [w_k_let, w_e173, w_k_mh H, w_k_bs, w_k_ift hc, if_neg w_k_01, if_pos hc]
    unfold f199_11
    rw [w_e134o w_k_00, w_k_bd, if_pos rfl, h1, w_k_bd, w_m_195 hA h4, w_k_bs, ek]
    unfold w_o_sure
    by_cases g1 : w_o_cn (w_o_f A k) (2 ^ w_k_qc A.2.2.2.1) = 2 ^ w_k_qc A.2.2.2.1
    · rw [if_pos (congrArg nI g1), if_pos g1]; exact w_m_scr2 hA H h2 h3
    · rw [if_neg (fun e => g1 ((w_k_eq (by omega) (by omega)).1 e)), if_neg g1]
      by_cases g2 : 0 < w_o_cn (w_o_f A k) (2 ^ w_k_qc A.2.2.2.1)
      · rw [if_pos (show (0 : Int32) < nI _ from (w_k_lt (a := 0) (by omega) (by omega)).2 g2), if_pos g2]; exact w_m_scr2 hA H h2 h3
      · rw [if_neg (show ¬ (0 : Int32) < nI _ from w_k_nlt (a := 0) (by omega) (by omega) g2), if_neg g2]; exact w_m_scr2 hA H h2 h3
  · unfold f199 w_a_sure w_a_one
    rw [w_k_let, w_e173, w_k_mh H, w_k_bs, w_k_iff hc, if_pos rfl, if_neg hc]
    unfold f199_11
    rw [w_e134b w_k_00 w_k_01, w_k_bd, if_neg w_k_01]
    exact w_m_ref hA H rfl
def w_o_hangs (A : w_k_A) (k : Nat) : Nat → Nat → Int32
  | 0, _ => -1
  | d + 1, q => if w_o_cn (w_o_g A k q) (2 ^ w_k_qc A.2.2.2.1) = 0 ∨ w_o_cn (w_o_g A k q) (2 ^ w_k_qc A.2.2.2.1) = 2 ^ w_k_qc A.2.2.2.1 then nI q else w_o_hangs A k d (q + 1)
def w_a_hangs (A : w_k_A) (p : Int32) : Int32 ⊕ Nat := w_a_one A p (w_o_hangs A p.toNatClampNeg (w_k_qc A.2.2.2.1) 0)
section HG
variable {u : g_S} {A : w_k_A} {k : Nat}
theorem w_c_102_7 (hA : w_k_Aok A) (hC : w_k_CI u A) (hu : ∀ b h, b < 2 ^ w_k_qc A.2.2.2.1 → h < 13 → u 85 (13 * b + h) = w_o_cb A b h) (hk : k < 13) : ∀ d q, q + d = w_k_qc A.2.2.2.1 → f102_7L u (nI k) (nI q) = some (.inl (w_o_hangs A k d q), u)
  | 0, q, e => by
    have hbd := w_k_Vb hA.2.2.2.1
    have e' : q = w_k_qc A.2.2.2.1 := by omega
    subst e'
    rw [f102_7L_eq]; unfold f102_7
    rw [hC.2.2.2.2.1.1.2.2.2.2.2.1, w_k_qcI hA.2.2.2.1, if_neg (w_k_nlt (by omega) (by omega) (by omega))]; rfl
  | d + 1, q, e => by
    have hbd := w_k_Vb hA.2.2.2.1
    have hp := w_k_p8 hbd.2.1
    have hle := w_o_cn_le (w_o_g A k q) (2 ^ w_k_qc A.2.2.2.1)
    have h5 : f129 u (nI k) (nI q) = some (nI (w_o_cn (w_o_g A k q) (2 ^ w_k_qc A.2.2.2.1))) := by unfold f129; exact w_c_129_4 hA hC hu hk (by omega) (2 ^ w_k_qc A.2.2.2.1) 0 (by omega)
    rw [f102_7L_eq]; unfold f102_7
    rw [hC.2.2.2.2.1.1.2.2.2.2.2.1, w_k_qcI hA.2.2.2.1, if_pos ((w_k_lt (by omega) (by omega)).2 (by omega)), h5, w_k_bs]
    unfold w_o_hangs
    by_cases g0 : w_o_cn (w_o_g A k q) (2 ^ w_k_qc A.2.2.2.1) = 0
    · rw [if_pos (show nI _ = 0 from congrArg nI g0), if_pos (Or.inl g0)]; rfl
    · rw [if_neg (show ¬ nI _ = 0 from fun e => g0 ((w_k_eq (b := 0) (by omega) (by omega)).1 e)), w_c_125 hA hC, w_k_bs]
      by_cases g1 : w_o_cn (w_o_g A k q) (2 ^ w_k_qc A.2.2.2.1) = 2 ^ w_k_qc A.2.2.2.1
      · rw [if_pos (congrArg nI g1), if_pos (Or.inr g1)]; rfl
      · rw [if_neg (fun e => g1 ((w_k_eq (by omega) (by omega)).1 e)), if_neg (by omega), w_k_s1]
        exact w_c_102_7 hA hC hu hk d (q + 1) (by omega)
theorem w_k_bitq0 : ∀ b, b < 256 → ∀ q, q < 8 → (if (((nI b) >>> (nI q &&& 31)) &&& 1) = 0 then (1 : Int32) else 0) = w_q_b (!b.testBit q) := by decide +kernel
theorem w_m_201_30 (hA : w_k_Aok A) (hM : w_k_MV u A.2.2.2.1) (hu : ∀ b h, b < 2 ^ w_k_qc A.2.2.2.1 → h < 13 → u (283 + b) h = w_o_cb A b h) (hk : k < 13) {q : Nat} (hq : q < 8) : ∀ d m, m + d = 2 ^ w_k_qc A.2.2.2.1 →
    f201_30L u (nI k) (nI q) (nI (w_o_cn (w_o_g A k q) m)) (nI (w_o_cn (fun b => !w_o_g A k q b) m)) (nI m) = f201_82 u (nI k) (nI q) (nI (w_o_cn (w_o_g A k q) (2 ^ w_k_qc A.2.2.2.1))) (nI (w_o_cn (fun b => !w_o_g A k q b) (2 ^ w_k_qc A.2.2.2.1)))
  | 0, m, e => by
    have hbd := w_k_Vb hA.2.2.2.1
    have hp := w_k_p8 hbd.2.1
    have e' : m = 2 ^ w_k_qc A.2.2.2.1 := by omega
    subst e'
    rw [f201_30L_eq]; unfold f201_30
    rw [w_m_195 hA hM, w_k_bs, if_neg (w_k_nlt (by omega) (by omega) (by omega))]
    generalize f201_82 u (nI k) (nI q) (nI (w_o_cn (w_o_g A k q) (2 ^ w_k_qc A.2.2.2.1))) (nI (w_o_cn (fun b => !w_o_g A k q b) (2 ^ w_k_qc A.2.2.2.1))) = z
    cases z <;> rfl
  | d + 1, m, e => by
    have hbd := w_k_Vb hA.2.2.2.1
    have hp := w_k_p8 hbd.2.1
    have ih := w_m_201_30 hA hM hu hk hq d (m + 1) (by omega)
    rw [show w_o_cn (w_o_g A k q) (m + 1) = w_o_cn (w_o_g A k q) m + (if w_o_g A k q m = true then 1 else 0) from rfl, show w_o_cn (fun b => !w_o_g A k q b) (m + 1) = w_o_cn (fun b => !w_o_g A k q b) m + (if (!w_o_g A k q m) = true then 1 else 0) from rfl] at ih
    rw [f201_30L_eq]; unfold f201_30
    rw [w_m_195 hA hM, w_k_bs, if_pos ((w_k_lt (by omega) (by omega)).2 (by omega)), if_pos ((w_k_inI (by omega)).2 (by omega)), if_pos (w_k_hin hk), w_k_nat (by omega), w_k_nat (by omega), hu m k (by omega) hk]
    have hbit := w_k_bitd (b := m) (q := q) (by omega) hq
    have hb0 : ((((nI m) >>> (nI q &&& 31)) &&& 1) = 0) ↔ m.testBit q = false := by
      have := w_k_bitq0 m (by omega) q hq
      by_cases h : (((nI m) >>> (nI q &&& 31)) &&& 1) = 0
      · rw [if_pos h] at this
        cases hb : m.testBit q with
        | false => exact ⟨fun _ => rfl, fun _ => h⟩
        | true => rw [hb] at this; exact absurd this (by decide)
      · rw [if_neg h] at this
        cases hb : m.testBit q with
        | true => exact ⟨fun g => absurd g h, fun g => absurd g (by decide)⟩
        | false => rw [hb] at this; exact absurd this (by decide)
    have z0 : ∀ x, nI x + 0 = nI (x + 0) := fun x => w_k_add x 0
    have go : ∀ w : Bool, w = w_o_f A k m → g_st (f201_44 u (nI k) (nI q) (nI (w_o_cn (w_o_g A k q) m)) (nI (w_o_cn (fun b => !w_o_g A k q b) m)) (nI m) (w_q_b w)) (fun S => f201_30L u (nI k) (nI q) S.1 S.2.1 S.2.2) = f201_82 u (nI k) (nI q) (nI (w_o_cn (w_o_g A k q) (2 ^ w_k_qc A.2.2.2.1))) (nI (w_o_cn (fun b => !w_o_g A k q b) (2 ^ w_k_qc A.2.2.2.1))) := by
      intro w hw
      have hg : w_o_g A k q m = (w == m.testBit q) := by rw [hw]; rfl
      rw [hg] at ih
      unfold f201_44 f201_57 f201_61 f201_74
      cases hb : m.testBit q with
      | false =>
        rw [hb] at ih
        have n1 : ¬ (((nI m) >>> (nI q &&& 31)) &&& 1) = 1 := fun h => by rw [hbit.1 h] at hb; cases hb
        rw [if_neg n1]
        cases w with
        | false =>
          rw [if_pos (by decide), if_neg (by decide)] at ih
          simp only [if_pos (show w_q_b false = 0 from rfl), if_pos (hb0.2 hb), if_neg (show ¬ w_q_b false = 1 by decide)]
          rw [w_k_s1, w_k_s1, z0]; exact ih
        | true =>
          rw [if_neg (by decide), if_pos (by decide)] at ih
          simp only [if_neg (show ¬ w_q_b true = 0 by decide), if_pos (hb0.2 hb), if_pos (show w_q_b true = 1 from rfl)]
          rw [w_k_s1, w_k_s1, z0]; exact ih
      | true =>
        rw [hb] at ih
        have n0 : ¬ (((nI m) >>> (nI q &&& 31)) &&& 1) = 0 := fun h => by rw [hb0.1 h] at hb; cases hb
        rw [if_pos (hbit.2 hb)]
        cases w with
        | false =>
          rw [if_neg (by decide), if_pos (by decide)] at ih
          simp only [if_neg (show ¬ w_q_b false = 1 by decide), if_neg n0, if_pos (show w_q_b false = 0 from rfl)]
          rw [w_k_s1, w_k_s1, z0]; exact ih
        | true =>
          rw [if_pos (by decide), if_neg (by decide)] at ih
          simp only [if_pos (show w_q_b true = 1 from rfl), if_neg n0, if_neg (show ¬ w_q_b true = 0 by decide)]
          rw [w_k_s1, w_k_s1, z0]; exact ih
    by_cases hf : 0 < w_o_cb A m k
    · rw [if_pos hf]; exact go true (decide_eq_true hf).symm
    · rw [if_neg hf]; exact go false (decide_eq_false hf).symm
theorem w_m_201_20 (hA : w_k_Aok A) (hM : w_k_MV u A.2.2.2.1) (hu : ∀ b h, b < 2 ^ w_k_qc A.2.2.2.1 → h < 13 → u (283 + b) h = w_o_cb A b h) (hk : k < 13) : ∀ d q, q + d = w_k_qc A.2.2.2.1 → f201_20L u (nI k) (nI q) = some (w_o_hangs A k d q, u)
  | 0, q, e => by
    have hbd := w_k_Vb hA.2.2.2.1
    have e' : q = w_k_qc A.2.2.2.1 := by omega
    subst e'
    rw [f201_20L_eq]; unfold f201_20
    rw [hM.1.2.2.2.2.2.1, w_k_qcI hA.2.2.2.1, if_neg (w_k_nlt (by omega) (by omega) (by omega))]; rfl
  | d + 1, q, e => by
    have hbd := w_k_Vb hA.2.2.2.1
    have hp := w_k_p8 hbd.2.1
    have hle := w_o_cn_le (w_o_g A k q) (2 ^ w_k_qc A.2.2.2.1)
    have hle2 := w_o_cn_le (fun b => !w_o_g A k q b) (2 ^ w_k_qc A.2.2.2.1)
    have hsum := w_o_cn_not (w_o_g A k q) (2 ^ w_k_qc A.2.2.2.1)
    rw [f201_20L_eq]; unfold f201_20
    rw [hM.1.2.2.2.2.2.1, w_k_qcI hA.2.2.2.1, if_pos ((w_k_lt (by omega) (by omega)).2 (by omega)), show f201_30L u (nI k) (nI q) 0 0 0 = _ from w_m_201_30 hA hM hu hk (by omega) (2 ^ w_k_qc A.2.2.2.1) 0 (by omega)]
    unfold f201_82 w_o_hangs
    rw [w_m_195 hA hM, w_k_bs, w_k_bs]
    by_cases g1 : w_o_cn (w_o_g A k q) (2 ^ w_k_qc A.2.2.2.1) = 2 ^ w_k_qc A.2.2.2.1
    · rw [if_pos (congrArg nI g1), if_pos (Or.inr g1)]; rfl
    · rw [if_neg (fun e => g1 ((w_k_eq (by omega) (by omega)).1 e))]
      by_cases g0 : w_o_cn (w_o_g A k q) (2 ^ w_k_qc A.2.2.2.1) = 0
      · rw [if_pos (congrArg nI (show _ = 2 ^ w_k_qc A.2.2.2.1 by omega)), if_pos (Or.inl g0)]; rfl
      · rw [if_neg (fun e => g0 (by have := (w_k_eq (by omega) (by omega)).1 e; omega)), if_neg (by omega), w_k_s1]
        exact w_m_201_20 hA hM hu hk d (q + 1) (by omega)
end HG
theorem w_c_hangs {s : g_S} {A : w_k_A} {p : Int32} (hA : w_k_Aok A) (H : w_k_CI s A) : w_k_cop s (f102 s p) (w_a_hangs A p) A := by
  refine w_c_one hA H (y := fun s2 => (f126 s2).bind fun s4 => f102_7L s4 p 0) (by unfold f102; rfl) (fun k hk hk3 e => ?_)
  subst e
  obtain ⟨u, h1, h2, h3, h4⟩ := w_c_126 hA H
  have ek : (nI k).toNatClampNeg = k := w_k_nat (by omega)
  rw [h1, w_k_bs, ek, show f102_7L u (nI k) 0 = _ from w_c_102_7 hA h2 h3 hk3 (w_k_qc A.2.2.2.1) 0 (by omega)]
  exact w_ok_some ⟨rfl, h2, h4⟩
theorem w_m_hangs {TR : w_k_TR} {s : g_S} {A : w_k_A} {p : Int32} (hT : w_k_HH TR) (hA : w_k_Aok A) (H : w_k_MI TR s A) : w_k_mop TR w_k_cN s (f201 s p) (w_a_hangs A p) A := by
  refine w_m_one hA H (K := fun s2 => (f196 s2).bind fun s5 => f201_20L s5 p 0) (by unfold f201; rw [w_k_let, w_e173, w_k_mh H, w_k_bs]; exact w_k_g1 w_k_00) (fun k hk hk3 e => ?_)
  subst e
  obtain ⟨u, h1, h2, h3, h4, h5⟩ := w_m_196 hT hA H
  have ek : (nI k).toNatClampNeg = k := w_k_nat (by omega)
  rw [h1, w_k_bs, ek, show f201_20L u (nI k) 0 = _ from w_m_201_20 hA h4 h5 hk3 (w_k_qc A.2.2.2.1) 0 (by omega)]
  exact w_m_scr2 hA H h2 h3
