/-! calls that look at the end -/
def w_k_HH (TR : w_k_TR) : Prop := w_k_HA TR ∧ (∀ T n L, TR T n L → w_q_ok L) ∧ ∀ T n L, TR T n L → L.2 = -1 ∨ L.2 = 0 ∨ L.2 = 1
def w_a_law (Ls : List w_q_L) (f : Int32) : w_q_L := if f = -1 then w_q_no else (Ls[f.toNatClampNeg]?).getD w_q_no
def w_a_inf (A : w_k_A) : w_q_L := w_a_law A.2.2.1 (A.2.2.2.1 4)
theorem w_a_law_at {Ls : List w_q_L} {l : Nat} (h : l < Ls.length) (hl : l < 2147483648) : Ls[l]? = some (w_a_law Ls (nI l)) := by
  unfold w_a_law
  rw [if_neg (w_k_ne1 hl), w_k_nat hl, List.getElem?_eq_getElem h]; rfl
theorem w_k_sC_l {l : Nat} (h : l < 4) : w_k_sC (86 + 8 * l + 7) := by unfold w_k_sC; omega
theorem w_c_law {s : g_S} {A : w_k_A} (hA : w_k_Aok A) (H : w_k_CI s A) {l : Nat} (hl : l < A.2.2.1.length) : l < 4 ∧ w_k_LR s (86 + 8 * l) (w_a_law A.2.2.1 (nI l)) := by
  have := hA.2.2.1
  exact ⟨by omega, H.2.2.2.1 l _ (w_a_law_at hl (by omega))⟩
theorem w_c_inf {s : g_S} {A : w_k_A} (hA : w_k_Aok A) (H : w_k_CI s A) : ∃ l, f120 s = some l ∧ g_lay l = o_4 l ∧ w_k_LR s l (w_a_inf A) ∧ (l = 3 ∨ 86 ≤ l) ∧ w_k_sC (l + 7) ∧ l + 7 < 199 := by
  have h4 := hA.2.2.1
  unfold f120 w_a_inf
  rw [H.2.2.2.2.1.1.2.2.2.2.1, w_e119, H.1.2.1, w_k_bs]
  rcases hA.2.2.2.1.2.2.2.2.2.1 with e | ⟨l, hl, e⟩
  · rw [e, w_k_iff (fun h => by have h1 := h.1; rw [Int32.lt_iff_toInt_lt] at h1; exact h1 (by decide)), if_pos rfl]
    exact ⟨3, rfl, t_3, H.2.2.1, Or.inl rfl, by unfold w_k_sC; omega, by omega⟩
  · obtain ⟨h1, h2⟩ := w_c_law hA H hl
    rw [e]
    have hw : w_k_wi (nI l) 0 (nI A.2.2.1.length - 1) := by
      obtain ⟨c, hc⟩ : ∃ c, A.2.2.1.length = c + 1 := ⟨A.2.2.1.length - 1, by omega⟩
      rw [hc, w_k_m1]
      exact w_k_iC (by omega) (by omega)
    rw [w_k_ift hw, if_neg w_k_01, if_pos ((w_k_inI (by omega)).2 h1), w_k_nat (by omega)]
    exact ⟨_, rfl, te_5 h1, h2, Or.inr (by omega), w_k_sC_l h1, by omega⟩
theorem w_m_law {TR : w_k_TR} {s : g_S} {A : w_k_A} (hT : w_k_HH TR) (hA : w_k_Aok A) (H : w_k_MI TR s A) {l : Nat} (hl : l < A.2.2.1.length) : w_k_ML TR s (nI l) (w_a_law A.2.2.1 (nI l)) := by
  have := hA.2.2.1
  obtain ⟨N, h1, h2, h3⟩ := H.2.2.1 l _ (w_a_law_at hl (by omega))
  exact ⟨hT.2.1 _ _ _ h3, Or.inr ⟨l, N, rfl, by omega, h1, h2, h3⟩⟩
theorem w_m_inf {TR : w_k_TR} {s : g_S} {A : w_k_A} (hT : w_k_HH TR) (hA : w_k_Aok A) (H : w_k_MI TR s A) : w_k_ML TR s (s 199 13) (w_a_inf A) := by
  unfold w_a_inf
  rw [H.2.2.2.1.1.2.2.2.2.1]
  rcases hA.2.2.2.1.2.2.2.2.2.1 with e | ⟨l, hl, e⟩
  · rw [e]; exact ⟨fun c hc => (by cases hc), Or.inl ⟨rfl, rfl⟩⟩
  · rw [e]; exact w_m_law hT hA H hl
theorem w_c_end {s : g_S} {A : w_k_A} (hA : w_k_Aok A) (H : w_k_CI s A) : ∃ l u, f120 s = some l ∧ g_lay l = o_4 l ∧ f10 s 22 l = some u ∧ w_o_CE u A.2.2.2.1 (w_a_inf A) ∧ w_k_CI u A ∧ ∀ y, 199 ≤ y → u y = s y := by
  obtain ⟨l, h1, h2, h3, h4, h5, h6⟩ := w_c_inf hA H
  obtain ⟨u, q1, q2, q3⟩ := w_e10 hA.2.2.2.1 H.2.2.2.2.1 h3 (Or.inl rfl) h4
  refine ⟨l, u, h1, h2, q1, q2, w_k_CI_cg hA (fun x hx hs => q3 x ?_ ?_) H, fun y hy => q3 y (by omega) (by omega)⟩
  · unfold w_k_sC at hs; omega
  · intro e; exact hs (e ▸ h5)
theorem w_m_endL {TR : w_k_TR} {s : g_S} {A : w_k_A} {L : w_q_L} {p : Int32} (hT : w_k_HH TR) (hA : w_k_Aok A) (H : w_k_MI TR s A) (hL : w_k_ML TR s p L) : ∃ u, f182 (g_w s 199 0 0) p = some u ∧ w_o_ME u A.2.2.2.1 L ∧ w_k_eM s u ∧ u 199 0 = 0 ∧ w_k_MV u A.2.2.2.1 := by
  have hv := w_k_M0 H.2.2.2.1
  obtain ⟨u, q1, q2, q3⟩ := w_e182 hT.1 hA.2.2.2.1 (w_k_ML_cg hL (fun x h1 h2 => w_k_wn (by omega))) hv
  have he : w_k_eM s u := fun x b hx => by
    have hx' := hx
    unfold w_k_sM at hx'
    rw [q3 x b (by unfold w_k_sE; omega), w_k_wq (by omega)]
  refine ⟨u, q1, q2, he, ?_, w_k_MV_cg H.2.2.2.1 he⟩
  rw [q3 199 0 (by unfold w_k_sE; omega)]; exact w_k_00
theorem w_m_end {TR : w_k_TR} {s : g_S} {A : w_k_A} (hT : w_k_HH TR) (hA : w_k_Aok A) (H : w_k_MI TR s A) : ∃ u, f182 (g_w s 199 0 0) (g_w s 199 0 0 199 13) = some u ∧ w_o_ME u A.2.2.2.1 (w_a_inf A) ∧ w_k_eM s u ∧ u 199 0 = 0 ∧ w_k_MV u A.2.2.2.1 := by
  rw [w_k_0n (by omega)]
  exact w_m_endL hT hA H (w_m_inf hT hA H)
def w_a_one (A : w_k_A) (p : Int32) (v : Int32) : Int32 ⊕ Nat := if w_k_wi p 0 (A.2.2.2.1 0 - 1) then .inl v else .inr 1
theorem w_c_one {s : g_S} {A : w_k_A} {p v : Int32} {x : Option ((Int32 ⊕ Nat) × g_S)} {y : g_S → Option ((Int32 ⊕ Nat) × g_S)} (hA : w_k_Aok A) (H : w_k_CI s A)
    (hx : x = g_tb (f117 s p) fun _ s2 => y s2) (hy : ∀ k, k < w_k_hc A.2.2.2.1 → k < 13 → p = nI k → w_k_cop s (y s) (.inl v) A) : w_k_cop s x (w_a_one A p v) A := by
  subst hx
  have hv := H.2.2.2.2.1
  unfold w_a_one
  by_cases h1 : w_k_wi p 0 (A.2.2.2.1 0 - 1)
  · obtain ⟨k, hk, hk3, e⟩ := w_k_hx hA.2.2.2.1 h1
    rw [w_e117t (by rw [hv.1.1]; exact h1), w_k_tbl, if_pos h1]
    exact hy k hk hk3 e
  · rw [w_e117f (by rw [hv.1.1]; exact h1), if_neg h1]
    exact w_ok_some ⟨rfl, H, fun _ _ => rfl⟩
theorem w_k_g1 {s : g_S} {c : Prop} [Decidable c] {K : g_S → Option (Int32 × g_S)} (hs : s 199 0 = 0) :
    (if w_k_if c = 0 then (g_bd (f134 s 1 1) fun v1 s2 => if v1 = 0 then K s2 else some (0, s2)) else (g_bd (f134 s 0 1) fun v1 s2 => if v1 = 0 then K s2 else some (0, s2)))
      = if c then K s else some (0, g_w s 199 0 1) := by
  by_cases hc : c
  · rw [w_k_ift hc, if_neg w_k_01, w_e134o hs, w_k_bd, if_pos hc, if_pos rfl]
  · rw [w_k_iff hc, if_pos rfl, w_e134b hs w_k_01, w_k_bd, if_neg hc, if_neg w_k_01]
theorem w_m_one {TR : w_k_TR} {s : g_S} {A : w_k_A} {p v : Int32} {x : Option (Int32 × g_S)} {K : g_S → Option (Int32 × g_S)} (hA : w_k_Aok A) (H : w_k_MI TR s A)
    (hx : x = if w_k_wi p 0 (A.2.2.2.1 0 - 1) then K (g_w s 199 0 0) else some (0, g_w (g_w s 199 0 0) 199 0 1))
    (hy : ∀ k, k < w_k_hc A.2.2.2.1 → k < 13 → p = nI k → w_k_mop TR w_k_cN s (K (g_w s 199 0 0)) (.inl v) A) : w_k_mop TR w_k_cN s x (w_a_one A p v) A := by
  subst hx
  unfold w_a_one
  by_cases h1 : w_k_wi p 0 (A.2.2.2.1 0 - 1)
  · obtain ⟨k, hk, hk3, e⟩ := w_k_hx hA.2.2.2.1 h1
    rw [if_pos h1, if_pos h1]; exact hy k hk hk3 e
  · rw [if_neg h1, if_neg h1]; exact w_m_ref hA H rfl
theorem w_m_oneN {v w : Int32} {A : w_k_A} {p : Int32} : w_a_one A p v = .inl w → v = w := by
  unfold w_a_one; split
  · intro h; cases h; rfl
  · intro h; cases h
def w_a_claim (A : w_k_A) (p : Int32) : Int32 ⊕ Nat := w_a_one A p (w_o_claim A.2.2.2.1 (w_a_inf A) p.toNatClampNeg)
def w_a_whom (A : w_k_A) (p : Int32) : Int32 ⊕ Nat := w_a_one A p (w_o_whom A.2.2.2.1 p.toNatClampNeg)
def w_a_pays (A : w_k_A) (p : Int32) : Int32 ⊕ Nat := w_a_one A p (w_o_pays A.2.2.2.1 (w_a_inf A) p.toNatClampNeg)
def w_a_bears (A : w_k_A) (p : Int32) : Int32 ⊕ Nat := w_a_one A p (w_o_bears A.2.2.2.1 (w_a_inf A) p.toNatClampNeg)
def w_a_must (A : w_k_A) (p : Int32) : Int32 ⊕ Nat := w_a_one A p (w_q_b (w_o_must A.2.2.2.1 (w_a_inf A) p.toNatClampNeg))
theorem w_c_claim {s : g_S} {A : w_k_A} {p : Int32} (hA : w_k_Aok A) (H : w_k_CI s A) : w_k_cop s (f92 s p) (w_a_claim A p) A := by
  refine w_c_one hA H (y := fun s2 => (f120 s2).bind fun v3 => if g_lay v3 = o_4 v3 then (f10 s2 22 v3).bind fun s6 => if m_in p 13 = true then some ((.inl (s6 78 p.toNatClampNeg), s6)) else none else none) (by unfold f92; rfl) (fun k hk hk3 e => ?_)
  subst e
  obtain ⟨l, u, h1, h2, h3, h4, h5, h6⟩ := w_c_end hA H
  rw [h1, w_k_bs, if_pos h2, h3, w_k_bs, if_pos (w_k_hin hk3), w_k_nat (by omega), (h4.2 k hk3).1]
  exact w_ok_some ⟨rfl, h5, h6⟩
theorem w_c_whom {s : g_S} {A : w_k_A} {p : Int32} (hA : w_k_Aok A) (H : w_k_CI s A) : w_k_cop s (f93 s p) (w_a_whom A p) A := by
  refine w_c_one hA H (y := fun s2 => (f120 s2).bind fun v3 => if g_lay v3 = o_4 v3 then (f10 s2 22 v3).bind fun s6 => if m_in p 13 = true then some ((.inl (s6 79 p.toNatClampNeg), s6)) else none else none) (by unfold f93; rfl) (fun k hk hk3 e => ?_)
  subst e
  obtain ⟨l, u, h1, h2, h3, h4, h5, h6⟩ := w_c_end hA H
  rw [h1, w_k_bs, if_pos h2, h3, w_k_bs, if_pos (w_k_hin hk3), w_k_nat (by omega), (h4.2 k hk3).2.1]
  exact w_ok_some ⟨rfl, h5, h6⟩
theorem w_c_pays {s : g_S} {A : w_k_A} {p : Int32} (hA : w_k_Aok A) (H : w_k_CI s A) : w_k_cop s (f94 s p) (w_a_pays A p) A := by
  refine w_c_one hA H (y := fun s2 => (f120 s2).bind fun v3 => if g_lay v3 = o_4 v3 then (f10 s2 22 v3).bind fun s6 => if m_in p 13 = true then some ((.inl (s6 80 p.toNatClampNeg), s6)) else none else none) (by unfold f94; rfl) (fun k hk hk3 e => ?_)
  subst e
  obtain ⟨l, u, h1, h2, h3, h4, h5, h6⟩ := w_c_end hA H
  rw [h1, w_k_bs, if_pos h2, h3, w_k_bs, if_pos (w_k_hin hk3), w_k_nat (by omega), (h4.2 k hk3).2.2.1]
  exact w_ok_some ⟨rfl, h5, h6⟩
theorem w_c_bears {s : g_S} {A : w_k_A} {p : Int32} (hA : w_k_Aok A) (H : w_k_CI s A) : w_k_cop s (f95 s p) (w_a_bears A p) A := by
  refine w_c_one hA H (y := fun s2 => (f120 s2).bind fun v3 => if g_lay v3 = o_4 v3 then (f10 s2 22 v3).bind fun s6 => if m_in p 13 = true then some ((.inl (s6 81 p.toNatClampNeg), s6)) else none else none) (by unfold f95; rfl) (fun k hk hk3 e => ?_)
  subst e
  obtain ⟨l, u, h1, h2, h3, h4, h5, h6⟩ := w_c_end hA H
  rw [h1, w_k_bs, if_pos h2, h3, w_k_bs, if_pos (w_k_hin hk3), w_k_nat (by omega), (h4.2 k hk3).2.2.2.1]
  exact w_ok_some ⟨rfl, h5, h6⟩
theorem w_c_must {s : g_S} {A : w_k_A} {p : Int32} (hA : w_k_Aok A) (H : w_k_CI s A) : w_k_cop s (f96 s p) (w_a_must A p) A := by
  refine w_c_one hA H (y := fun s2 => (f120 s2).bind fun v3 => if g_lay v3 = o_4 v3 then (f10 s2 22 v3).bind fun s6 => if m_in p 13 = true then if m_isb (s6 82 p.toNatClampNeg) = true then some ((.inl (s6 82 p.toNatClampNeg), s6)) else none else none else none) (by unfold f96; rfl) (fun k hk hk3 e => ?_)
  subst e
  obtain ⟨l, u, h1, h2, h3, h4, h5, h6⟩ := w_c_end hA H
  rw [h1, w_k_bs, if_pos h2, h3, w_k_bs, if_pos (w_k_hin hk3), w_k_nat (by omega), (h4.2 k hk3).2.2.2.2, if_pos w_k_isq]
  exact w_ok_some ⟨rfl, h5, h6⟩
theorem w_m_claim {TR : w_k_TR} {s : g_S} {A : w_k_A} {p : Int32} (hT : w_k_HH TR) (hA : w_k_Aok A) (H : w_k_MI TR s A) : w_k_mop TR w_k_cN s (f186 s p) (w_a_claim A p) A := by
  refine w_m_one hA H (K := fun s2 => (f182 s2 (s2 199 13)).bind fun s5 => if m_in p 13 = true then some ((s5 238 p.toNatClampNeg, s5)) else none) (by unfold f186; rw [w_k_let, w_e173, w_k_mh H, w_k_bs]; exact w_k_g1 w_k_00) (fun k hk hk3 e => ?_)
  subst e
  obtain ⟨u, h1, h2, h3, h4, h5⟩ := w_m_end hT hA H
  rw [h1, w_k_bs, if_pos (w_k_hin hk3), w_k_nat (by omega), (h2.2.1 k hk3).1]
  exact w_m_scr2 hA H h3 h4
theorem w_m_whom {TR : w_k_TR} {s : g_S} {A : w_k_A} {p : Int32} (hT : w_k_HH TR) (hA : w_k_Aok A) (H : w_k_MI TR s A) : w_k_mop TR w_k_cN s (f187 s p) (w_a_whom A p) A := by
  refine w_m_one hA H (K := fun s2 => (f182 s2 (s2 199 13)).bind fun s5 => if m_in p 13 = true then some ((s5 239 p.toNatClampNeg, s5)) else none) (by unfold f187; rw [w_k_let, w_e173, w_k_mh H, w_k_bs]; exact w_k_g1 w_k_00) (fun k hk hk3 e => ?_)
  subst e
  obtain ⟨u, h1, h2, h3, h4, h5⟩ := w_m_end hT hA H
  rw [h1, w_k_bs, if_pos (w_k_hin hk3), w_k_nat (by omega), (h2.2.1 k hk3).2.1]
  exact w_m_scr2 hA H h3 h4
theorem w_m_pays {TR : w_k_TR} {s : g_S} {A : w_k_A} {p : Int32} (hT : w_k_HH TR) (hA : w_k_Aok A) (H : w_k_MI TR s A) : w_k_mop TR w_k_cN s (f188 s p) (w_a_pays A p) A := by
  refine w_m_one hA H (K := fun s2 => (f182 s2 (s2 199 13)).bind fun s5 => if m_in p 13 = true then some ((s5 240 p.toNatClampNeg, s5)) else none) (by unfold f188; rw [w_k_let, w_e173, w_k_mh H, w_k_bs]; exact w_k_g1 w_k_00) (fun k hk hk3 e => ?_)
  subst e
  obtain ⟨u, h1, h2, h3, h4, h5⟩ := w_m_end hT hA H
  rw [h1, w_k_bs, if_pos (w_k_hin hk3), w_k_nat (by omega), (h2.2.1 k hk3).2.2.1]
  exact w_m_scr2 hA H h3 h4
theorem w_m_bears {TR : w_k_TR} {s : g_S} {A : w_k_A} {p : Int32} (hT : w_k_HH TR) (hA : w_k_Aok A) (H : w_k_MI TR s A) : w_k_mop TR w_k_cN s (f189 s p) (w_a_bears A p) A := by
  refine w_m_one hA H (K := fun s2 => (f182 s2 (s2 199 13)).bind fun s5 => if m_in p 13 = true then some ((s5 242 p.toNatClampNeg, s5)) else none) (by unfold f189; rw [w_k_let, w_e173, w_k_mh H, w_k_bs]; exact w_k_g1 w_k_00) (fun k hk hk3 e => ?_)
  subst e
  obtain ⟨u, h1, h2, h3, h4, h5⟩ := w_m_end hT hA H
  rw [h1, w_k_bs, if_pos (w_k_hin hk3), w_k_nat (by omega), (h2.2.1 k hk3).2.2.2.1]
  exact w_m_scr2 hA H h3 h4
theorem w_o_must_is {V : w_k_V} {L : w_q_L} {k : Nat} : w_o_must V L k = (w_o_oath V L k && decide (V (20 + 12 * k) = 0)) := by
  unfold w_o_must w_o_oath
  by_cases h : V 2 ≠ -1 ∧ 1 ≤ k ∧ k ≤ w_o_hol V
  · rw [if_pos h, if_pos h]; unfold w_o_must1 w_o_oath1
    cases w_o_ans V L k <;> cases w_o_sw V L k <;> cases decide (V (20 + 12 * k) = 0) <;> rfl
  · rw [if_neg h, if_neg h]; rfl
theorem w_m_must {TR : w_k_TR} {s : g_S} {A : w_k_A} {p : Int32} (hT : w_k_HH TR) (hA : w_k_Aok A) (H : w_k_MI TR s A) : w_k_mop TR w_k_cN s (f190 s p) (w_a_must A p) A := by
  refine w_m_one hA H (K := fun s2 => (f182 s2 (s2 199 13)).bind fun s5 => if m_in p 13 = true then if (s5 243 p.toNatClampNeg) = 0 then (some ((0, s5))) else (if (s5 (225 + p.toNatClampNeg) 3) = 0 then (some ((1, s5))) else (some ((0, s5)))) else none) (by unfold f190; rw [w_k_let, w_e173, w_k_mh H, w_k_bs]; exact w_k_g1 w_k_00) (fun k hk hk3 e => ?_)
  subst e
  obtain ⟨u, h1, h2, h3, h4, h5⟩ := w_m_end hT hA H
  have x3 : u (225 + k) 3 = A.2.2.2.1 (20 + 12 * k) := (h5.2.2.2.1 k 3 hk3 (by omega)).trans (congrArg A.2.2.2.1 (by omega))
  rw [h1, w_k_bs, if_pos (w_k_hin hk3), w_k_nat (by omega), (h2.2.1 k hk3).2.2.2.2.1, x3, w_o_must_is]
  cases ho : w_o_oath A.2.2.2.1 (w_a_inf A) k with
  | false => rw [if_pos (show w_q_b false = 0 from rfl)]; exact w_m_scr2 hA H h3 h4
  | true =>
    rw [if_neg (by decide)]
    by_cases h0 : A.2.2.2.1 (20 + 12 * k) = 0
    · rw [if_pos h0, decide_eq_true h0]; exact w_m_scr2 hA H h3 h4
    · rw [if_neg h0, decide_eq_false h0]; exact w_m_scr2 hA H h3 h4
/-! beside, name, wrong -/
def w_a_two' (A : w_k_A) (p : Int32) (c : Prop) [Decidable c] (v : Int32) : Int32 ⊕ Nat := if w_k_wi p 0 (A.2.2.2.1 0 - 1) then (if c then .inl v else .inr 0) else .inr 1
theorem w_k_same {A : w_k_A} {p : Int32} {c : Prop} [Decidable c] : (if w_k_wi p 0 (A.2.2.2.1 0 - 1) then (if c then A else A) else A) = A := by
  split
  · split <;> rfl
  · rfl
theorem w_c_two' {s : g_S} {A : w_k_A} {p v w r : Int32} {x : Option ((Int32 ⊕ Nat) × g_S)} {y : g_S → Option ((Int32 ⊕ Nat) × g_S)} (hA : w_k_Aok A) (H : w_k_CI s A)
    (hx : x = g_tb (f117 s p) fun _ s2 => (f118 s2 v w).bind fun v3 => g_tb (f116 s2 v3) fun _ s5 => y s5)
    (hy : ∀ k, k < w_k_hc A.2.2.2.1 → k < 13 → p = nI k → w_k_wi v 0 w → w_k_cop s (y s) (.inl r) A) : w_k_cop s x (w_a_two' A p (w_k_wi v 0 w) r) A := by
  have := w_c_two (r := .inl r) (B := A) hA H hx hy
  rw [w_k_same] at this
  exact this
theorem w_m_two' {TR : w_k_TR} {s : g_S} {A : w_k_A} {p r : Int32} {c : Prop} [Decidable c] {x y z : Option (Int32 × g_S)} (hA : w_k_Aok A) (H : w_k_MI TR s A)
    (hx : x = if w_k_wi p 0 (A.2.2.2.1 0 - 1) then (if c then y else z) else some (0, g_w (g_w s 199 0 0) 199 0 1))
    (hz : z = some (0, g_w (g_w s 199 0 0) 199 0 2)) (hy : ∀ k, k < w_k_hc A.2.2.2.1 → k < 13 → p = nI k → c → w_k_mop TR w_k_cB s y (.inl r) A) : w_k_mop TR w_k_cB s x (w_a_two' A p c r) A := by
  have := w_m_two (r := .inl r) (B := A) hA H hx hz hy
  rw [w_k_same] at this
  exact this
def w_a_beside (A : w_k_A) (l p : Int32) : Int32 ⊕ Nat := w_a_two' A p (w_k_wi l 0 (nI A.2.2.1.length - 1)) (w_o_bears A.2.2.2.1 (w_a_law A.2.2.1 l) p.toNatClampNeg)
theorem w_c_endL {s : g_S} {A : w_k_A} {l : Nat} (hA : w_k_Aok A) (H : w_k_CI s A) (hl : l < A.2.2.1.length) : ∃ u, f10 s 22 (86 + 8 * l) = some u ∧ w_o_CE u A.2.2.2.1 (w_a_law A.2.2.1 (nI l)) ∧ w_k_CI u A ∧ ∀ y, 199 ≤ y → u y = s y := by
  obtain ⟨h1, h2⟩ := w_c_law hA H hl
  obtain ⟨u, q1, q2, q3⟩ := w_e10 hA.2.2.2.1 H.2.2.2.2.1 h2 (Or.inl rfl) (Or.inr (by omega))
  refine ⟨u, q1, q2, w_k_CI_cg hA (fun x hx hs => q3 x ?_ ?_) H, fun y hy => q3 y (by omega) (by omega)⟩
  · unfold w_k_sC at hs; omega
  · intro e; exact hs (e ▸ w_k_sC_l h1)
theorem w_c_beside {s : g_S} {A : w_k_A} {l p : Int32} (hA : w_k_Aok A) (H : w_k_CI s A) : w_k_cop s (f112 s l p) (w_a_beside A l p) A := by
  have h4 := hA.2.2.1
  have ex : f112 s l p = g_tb (f117 s p) fun _ s2 => (f118 s2 l (nI A.2.2.1.length - 1)).bind fun v3 => g_tb (f116 s2 v3) fun _ s5 => if m_in l 4 = true then (f10 s5 22 (86 + 8 * l.toNatClampNeg)).bind fun s8 => if m_in p 13 = true then some ((.inl (s8 81 p.toNatClampNeg), s8)) else none else none := by
    unfold f112
    have hv := H.2.2.2.2.1
    by_cases h1 : w_k_wi p 0 (A.2.2.2.1 0 - 1)
    · rw [w_e117t (by rw [hv.1.1]; exact h1), w_k_tbl, w_k_tbl, w_e119, w_e118, H.1.2.1]
    · rw [w_e117f (by rw [hv.1.1]; exact h1), w_k_tbr, w_k_tbr]
  refine w_c_two' hA H ex (fun k hk hk3 e h => ?_)
  clear ex
  obtain ⟨i, hi, rfl⟩ := w_k_i1 rfl (by omega) h
  subst e
  obtain ⟨u, h1, h2, h5, h6⟩ := w_c_endL hA H hi
  rw [if_pos ((w_k_inI (by omega)).2 (by omega)), w_k_nat (by omega), h1, w_k_bs, if_pos (w_k_hin hk3), w_k_nat (by omega), (h2.2 k hk3).2.2.2.1]
  exact w_ok_some ⟨rfl, h5, h6⟩
theorem w_m_beside {TR : w_k_TR} {s : g_S} {A : w_k_A} {l p : Int32} (hT : w_k_HH TR) (hA : w_k_Aok A) (H : w_k_MI TR s A) : w_k_mop TR w_k_cB s (f216 s l p) (w_a_beside A l p) A := by
  have h4 := hA.2.2.1
  refine w_m_two' hA H (y := f216_26 (g_w s 199 0 0) l p 0) (z := f216_26 (g_w s 199 0 0) l p 1) ?_ ?_ (fun k hk hk3 e h => ?_)
  · unfold f216; rw [w_k_let, w_e173, w_k_mh H, w_k_bs]
    have hl : ∀ w, f216_11 (g_w s 199 0 0) l p w = g_bd (f134 (g_w s 199 0 0) w 1) fun v1 s2 => if v1 = 0 then (some (w_k_if (w_k_wi l 0 (s2 199 12 - 1)))).bind fun v4 => if v4 = 0 then f216_26 s2 l p 1 else f216_26 s2 l p 0 else some (0, s2) := by
      intro w; unfold f216_11; simp only [w_e135]
    by_cases hc : w_k_wi p 0 (A.2.2.2.1 0 - 1)
    · rw [w_k_ift hc, if_neg w_k_01, hl, w_e134o w_k_00, w_k_bd, if_pos hc, if_pos rfl, w_k_0n (by omega), H.1.2.1, w_k_bs]
      by_cases hd : w_k_wi l 0 (nI A.2.2.1.length - 1)
      · rw [w_k_ift hd, if_pos hd, if_neg w_k_01]
      · rw [w_k_iff hd, if_neg hd, if_pos rfl]
    · rw [w_k_iff hc, if_pos rfl, hl, w_e134b w_k_00 w_k_01, w_k_bd, if_neg hc, if_neg w_k_01]
  · unfold f216_26; rw [w_e134b w_k_00 w_k_02]; rfl
  obtain ⟨i, hi, rfl⟩ := w_k_i1 rfl (by omega) h
  subst e
  obtain ⟨u, h1, h2, h3, h5, h6⟩ := w_m_endL hT hA H (w_m_law hT hA H hi)
  unfold f216_26
  rw [w_e134o w_k_00, w_k_bd, if_pos rfl, h1, w_k_bs, if_pos (w_k_hin hk3), w_k_nat (by omega), (h2.2.1 k hk3).2.2.2.1]
  exact w_m_scr2 hA H h3 h5
def w_a_name (A : w_k_A) (p w : Int32) : Int32 ⊕ Nat := w_a_two' A p (w_k_wi w 0 7) (if A.2.2.2.1 2 ≠ -1 ∧ 1 ≤ p.toNatClampNeg ∧ p.toNatClampNeg ≤ w_o_hol A.2.2.2.1 then w_o_nm A.2.2.2.1 (w_a_inf A) p.toNatClampNeg w.toNatClampNeg else -1)
theorem w_k_hold_on {V : w_k_V} (h : V 2 ≠ -1) : w_k_holder V = nI (w_o_hol V) := by unfold w_k_holder w_o_hol; rw [if_neg h]
theorem w_k_hold_off {V : w_k_V} (h : V 2 = -1) : w_k_holder V = -1 := by unfold w_k_holder; rw [if_pos h]
theorem w_k_m1lt {k : Nat} (h : k < 2147483648) : (-1 : Int32) < nI k := by
  rw [Int32.lt_iff_toInt_lt, w_k_nI h]
  have h2 : (-1 : Int32).toInt = -1 := rfl
  omega
theorem w_c_name {s : g_S} {A : w_k_A} {p w : Int32} (hA : w_k_Aok A) (H : w_k_CI s A) : w_k_cop s (f91 s p w) (w_a_name A p w) A := by
  refine w_c_two' hA H (y := fun s5 => (f2 s5 22).bind fun v6 => if p < 1 then (some ((.inl ((-1)), s5))) else (if v6 < p then (some ((.inl ((-1)), s5))) else ((f120 s5).bind fun v9 => if g_lay v9 = o_4 v9 then (f4 s5 22 p v6 v9 21).bind fun s12 => if m_in w 8 = true then some ((.inl (s12 21 w.toNatClampNeg), s12)) else none else none))) (by unfold f91; rfl) (fun k hk hk3 e h => ?_)
  obtain ⟨i, hi, rfl⟩ := w_k_iL 7 h rfl (by omega)
  subst e
  have hV := hA.2.2.2.1
  have hh := w_o_hol_lt hV
  rw [w_e2 hV H.2.2.2.2.1, w_k_bs, w_k_nat (by omega), w_k_nat (by omega)]
  by_cases h0 : k = 0
  · subst h0
    rw [if_pos (by decide), if_neg (by omega)]
    exact w_ok_some ⟨rfl, H, fun _ _ => rfl⟩
  · rw [if_neg (show ¬ nI k < 1 from w_k_nlt (b := 1) (by omega) (by omega) (by omega))]
    by_cases hon : A.2.2.2.1 2 = -1
    · rw [w_k_hold_off hon, if_pos (w_k_m1lt (by omega)), if_neg (fun g => g.1 hon)]
      exact w_ok_some ⟨rfl, H, fun _ _ => rfl⟩
    · rw [w_k_hold_on hon]
      by_cases hk2 : k ≤ w_o_hol A.2.2.2.1
      · rw [if_neg (w_k_nlt (by omega) (by omega) (by omega)), if_pos ⟨hon, by omega, hk2⟩]
        obtain ⟨l, h1, h2, h3, h4, h5, h6⟩ := w_c_inf hA H
        obtain ⟨u, q1, q2, q3⟩ := w_e4 (p := 21) hV H.2.2.2.2.1 h3 (show 1 ≤ k by omega) hk2 (by omega) (by omega) (by omega)
        rw [h1, w_k_bs, if_pos h2, q1, w_k_bs, if_pos ((w_k_inI (by omega)).2 (by omega)), q2 i (by omega)]
        exact w_ok_some ⟨rfl, w_k_CI_cg hA (fun x hx hs => q3 x (by intro e; subst e; exact hs (by unfold w_k_sC; omega))) H, fun y hy => q3 y (by omega)⟩
      · rw [if_pos ((w_k_lt (by omega) (by omega)).2 (by omega)), if_neg (fun g => hk2 g.2.2)]
        exact w_ok_some ⟨rfl, H, fun _ _ => rfl⟩
theorem w_m_name {TR : w_k_TR} {s : g_S} {A : w_k_A} {p w : Int32} (hT : w_k_HH TR) (hA : w_k_Aok A) (H : w_k_MI TR s A) : w_k_mop TR w_k_cB s (f185 s p w) (w_a_name A p w) A := by
  refine w_m_two' hA H (y := f185_23 (g_w s 199 0 0) p w 0) (z := f185_23 (g_w s 199 0 0) p w 1) ?_ ?_ (fun k hk hk3 e h => ?_)
  · unfold f185; rw [w_k_let, w_e173, w_k_mh H, w_k_bs]
    unfold f185_11
    simp only [w_e135]
    exact w_k_g2 (K := fun u t => f185_23 t p w u) w_k_00
  · unfold f185_23; rw [w_e134b w_k_00 w_k_02]; rfl
  obtain ⟨i, hi, rfl⟩ := w_k_iL 7 h rfl (by omega)
  subst e
  have hV := hA.2.2.2.1
  have hh := w_o_hol_lt hV
  obtain ⟨u, h1, h2, h3, h5, h6⟩ := w_m_end hT hA H
  unfold f185_23
  rw [w_e134o w_k_00, w_k_bd, if_pos rfl, h1, w_k_bs]
  unfold f184
  rw [h2.1, w_k_nat (by omega), w_k_nat (by omega)]
  by_cases h0 : k = 0
  · subst h0
    rw [if_neg (show ¬ (0 : Int32) < nI 0 by decide), w_k_bs, if_pos rfl, if_neg (show ¬ (A.2.2.2.1 2 ≠ -1 ∧ 1 ≤ 0 ∧ 0 ≤ w_o_hol A.2.2.2.1) by omega)]
    exact w_m_scr2 hA H h3 h5
  · rw [if_pos (show (0 : Int32) < nI k from (w_k_lt (a := 0) (by omega) (by omega)).2 (by omega))]
    by_cases hon : A.2.2.2.1 2 = -1
    · rw [w_k_hold_off hon, if_pos (w_k_m1lt (by omega)), w_k_bs, if_pos rfl, if_neg (show ¬ (A.2.2.2.1 2 ≠ -1 ∧ 1 ≤ k ∧ k ≤ w_o_hol A.2.2.2.1) from fun g => g.1 hon)]
      exact w_m_scr2 hA H h3 h5
    · rw [w_k_hold_on hon]
      by_cases hk2 : k ≤ w_o_hol A.2.2.2.1
      · rw [if_neg (w_k_nlt (by omega) (by omega) (by omega)), if_pos (show A.2.2.2.1 2 ≠ -1 ∧ 1 ≤ k ∧ k ≤ w_o_hol A.2.2.2.1 from ⟨hon, by omega, hk2⟩), w_k_bs, if_neg w_k_01, if_pos (w_k_hin hk3), if_pos ((w_k_inI (by omega)).2 (by omega)), h2.2.2 k hon (by omega) hk2 i (by omega)]
        exact w_m_scr2 hA H h3 h5
      · rw [if_pos ((w_k_lt (by omega) (by omega)).2 (by omega)), w_k_bs, if_pos rfl, if_neg (show ¬ (A.2.2.2.1 2 ≠ -1 ∧ 1 ≤ k ∧ k ≤ w_o_hol A.2.2.2.1) from fun g => hk2 g.2.2)]
        exact w_m_scr2 hA H h3 h5
def w_o_wrong (V : w_k_V) (L : w_q_L) : Nat → Nat → Int32
  | 0, _ => -1
  | d + 1, k => if V (16 + 12 * k) = w_o_claim V L k then w_o_wrong V L d (k + 1) else nI k
def w_a_wrong (A : w_k_A) : Int32 := w_o_wrong A.2.2.2.1 (w_a_inf A) (w_k_hc A.2.2.2.1 - 1) 1
theorem w_e110_9 {u : g_S} {V : w_k_V} {L : w_q_L} {n : Nat} (hV : w_k_Vok n V) (H : w_k_CV u 22 V) (h : w_o_CE u V L) : ∀ d k, 1 ≤ k → k + d = w_k_hc V → f110_9L u (nI k) = some (w_o_wrong V L d k, u)
  | 0, k, h1, e => by
    have hb := w_k_Vb hV
    rw [f110_9L_eq]; unfold f110_9
    rw [H.1.1, w_k_hcI hV, if_neg (w_k_nlt (by omega) (by omega) (by omega))]; rfl
  | d + 1, k, h1, e => by
    have hb := w_k_Vb hV
    have hj : u (28 + k) 6 = V (16 + 12 * k) := (H.2.1 k (by omega)).2.2.1
    rw [f110_9L_eq]; unfold f110_9
    rw [H.1.1, w_k_hcI hV, if_pos ((w_k_lt (by omega) (by omega)).2 (by omega)), if_pos (w_k_hin (by omega)), w_k_nat (by omega), hj, (h.2 k (by omega)).1]
    unfold w_o_wrong
    by_cases hc : V (16 + 12 * k) = w_o_claim V L k
    · rw [if_pos hc, if_pos hc, w_k_s1]; exact w_e110_9 hV H h d (k + 1) (by omega) (by omega)
    · rw [if_neg hc, if_neg hc]; rfl
theorem w_c_wrong {s : g_S} {A : w_k_A} (hA : w_k_Aok A) (H : w_k_CI s A) : w_k_cov s (f110 s) (w_a_wrong A) A := by
  have hV := hA.2.2.2.1
  obtain ⟨l, u, h1, h2, h3, h4, h5, h6⟩ := w_c_end hA H
  unfold f110
  rw [h1, w_k_bs, if_pos h2, h3, w_k_bs, show f110_9L u 1 = _ from w_e110_9 hV h5.2.2.2.2.1 h4 (w_k_hc A.2.2.2.1 - 1) 1 (by omega) (by have := hV.1.2.1; omega)]
  exact w_ok_some ⟨rfl, h5, h6⟩
theorem w_e213_9 {u : g_S} {V : w_k_V} {L : w_q_L} {n : Nat} (hV : w_k_Vok n V) (H : w_k_MV u V) (h : w_o_ME u V L) : ∀ d k, 1 ≤ k → k + d = w_k_hc V → f213_9L u (nI k) = some (w_o_wrong V L d k, u)
  | 0, k, h1, e => by
    have hb := w_k_Vb hV
    rw [f213_9L_eq]; unfold f213_9
    rw [H.1.1, w_k_hcI hV, if_neg (w_k_nlt (by omega) (by omega) (by omega))]; rfl
  | d + 1, k, h1, e => by
    have hb := w_k_Vb hV
    rw [f213_9L_eq]; unfold f213_9
    rw [H.1.1, w_k_hcI hV, if_pos ((w_k_lt (by omega) (by omega)).2 (by omega)), if_pos (w_k_hin (by omega)), w_k_nat (by omega), (H.2.2.1 k (by omega)).2, (h.2.1 k (by omega)).1]
    unfold w_o_wrong
    by_cases hc : V (16 + 12 * k) = w_o_claim V L k
    · rw [if_pos hc, if_pos hc, w_k_s1]; exact w_e213_9 hV H h d (k + 1) (by omega) (by omega)
    · rw [if_neg hc, if_neg hc]; rfl
theorem w_m_wrong {TR : w_k_TR} {s : g_S} {A : w_k_A} (hT : w_k_HH TR) (hA : w_k_Aok A) (H : w_k_MI TR s A) : w_k_mov TR s (f213 s) (w_a_wrong A) A := by
  have hV := hA.2.2.2.1
  obtain ⟨u, h1, h2, h3, h4, h5⟩ := w_m_end hT hA H
  unfold f213
  rw [w_k_let, h1, w_k_bs, show f213_9L u 1 = _ from w_e213_9 hV h5 h2 (w_k_hc A.2.2.2.1 - 1) 1 (by omega) (by have := hV.1.2.1; omega)]
  exact w_m_scr hA H h3
