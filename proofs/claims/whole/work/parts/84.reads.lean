section RL
variable {T : Nat → Int32} {n l : Nat}
def w_k_PI (T : Nat → Int32) (n l : Nat) (cs : List w_q_C) (a b d : Int32) (xs : List Int32) (mix : Int32) (k p0 : Nat) (s : g_S) (R : w_t_RB) (w : Int32 × g_S) : Prop := match R with
  | .inl e => w.1 = 0 ∧ w_k_FL w.2 T n l e ∧ w_k_fl l s w.2
  | .inr (q, v) => w.1 = 1 ∧ w_k_RS w.2 T n l q ∧ w_k_LW w.2 l cs (a, (b, (d ||| v, xs))) mix k ∧ w.2 11 9 = s 11 9 ∧ w_k_fl l s w.2 ∧ p0 ≤ q ∧ w.2 11 1 = s 11 1
def w_k_SI (T : Nat → Int32) (n l : Nat) (F : g_S → Option (Int32 × g_S)) (φ : Nat → w_t_RB) : Prop :=
  ∀ (s : g_S) (p : Nat) (cs : List w_q_C) (a b d : Int32) (xs : List Int32) (mix : Int32) (k : Nat), w_k_RS s T n l p → w_k_LW s l cs (a, (b, (d, xs))) mix k → w_OK (F s) (w_k_PI T n l cs a b d xs mix k p s (φ p))
theorem w_e74b (s : g_S) (w : Int32) : f74 s w 6 = some (w_t_bits w) := by unfold f74 w_t_bits; split <;> rfl
theorem w_incl (hn : n ≤ 500) (hB : ∀ j, j < n → w_k_wi (T j) 0 255) (hl : 20 ≤ l) (hl2 : l < 565) (hlay : g_lay l = o_4 l) {s : g_S} {p k : Nat} {cs : List w_q_C} {a b d mix v : Int32} {xs : List Int32} (hs : w_k_RS s T n l p) (hw : w_k_LW s l cs (a, (b, (d, xs))) mix k) :
    w_OK (if g_lay (s 11 4).toNatClampNeg = o_4 (s 11 4).toNatClampNeg then (f32 s ((s 11 4).toNatClampNeg) v).bind fun s6 => (f68 s6).bind fun s8 => some (1, s8) else none) (w_k_PI T n l cs a b d xs mix k p s (.inr (w_t_nx T n p, v))) := by
  obtain ⟨z, z1, z2, z3⟩ := w_e32 (v := v) hw hl
  obtain ⟨u, p1, p2, p3⟩ := w_e68n hn hB (w_k_RS_l hs hl z3)
  have w_e11 : z 11 = s 11 := z3 11 (by omega)
  have hnx := w_t_nx_le (T := T) hs.2.2.2.2.2
  rw [w_k_l4 hl2 hs.1, if_pos hlay, z1, w_k_bs, p1, w_k_bs]
  refine w_ok_some ⟨rfl, p2, w_k_LW_11 z2 hl (fun x b hx => p3 x b (by omega)), ?_, w_k_fl_tr (w_k_fl_l z3) (w_k_fl_11 (fun x b hx => p3 x b (by omega))), hnx.1, ?_⟩
  · dsimp only; rw [p3 11 9 (by omega), w_e11]
  · dsimp only; rw [p3 11 1 (by omega), w_e11]
theorem w_SI_harm (hn : n ≤ 500) (hB : ∀ j, j < n → w_k_wi (T j) 0 255) (hl : 20 ≤ l) (hl2 : l < 565) (hlay : g_lay l = o_4 l) : w_k_SI T n l f49 (w_t_harm T n) := by
  intro s p cs a b d xs mix k hs hw
  unfold f49 w_t_harm
  rw [w_e72 hn hs (by omega), w_k_bs]
  by_cases h : w_t_wof T n p 4 = -1
  · rw [if_pos h, if_pos h]
    obtain ⟨u, h1, h2, h3⟩ := w_e67 (f := 1) hl hs (w_k_LW_JK hw)
    rw [h1, w_k_bd, if_pos w_k_b0]
    exact w_ok_some ⟨rfl, h2, h3⟩
  · rw [if_neg h, if_neg h, w_e74b, w_k_bs]
    exact w_incl hn hB hl hl2 hlay hs hw
theorem w_SI_term (hn : n ≤ 500) (hB : ∀ j, j < n → w_k_wi (T j) 0 255) (hl : 20 ≤ l) (hl2 : l < 565) (hlay : g_lay l = o_4 l) : w_k_SI T n l f51 (w_t_term T n) := by
  intro s p cs a b d xs mix k hs hw
  unfold f51 f66 f66_16 w_t_term
  rw [hs.2.2.2.1]
  by_cases h : w_t_kd T n p = 257
  · rw [if_pos h, if_pos h, hs.2.2.2.2.1 h]
    have bad : w_OK (g_bd (g_bd (f67 s 2) fun v1 s2 => if v1 = 0 then some ((0 : Int32), s2) else some (1, s2)) fun v1 s2 => if v1 = 0 then some ((0 : Int32), s2) else if g_lay (s2 11 4).toNatClampNeg = o_4 (s2 11 4).toNatClampNeg then (f32 s2 ((s2 11 4).toNatClampNeg) ((1 : Int32) <<< ((s2 11 8) &&& 31))).bind fun s6 => (f68 s6).bind fun s8 => some (1, s8) else none) (w_k_PI T n l cs a b d xs mix k p s (.inl (2, p))) := by
      obtain ⟨u, h1, h2, h3⟩ := w_e67 (f := 2) hl hs (w_k_LW_JK hw)
      rw [h1, w_k_bd, if_pos rfl, w_k_bd, if_pos rfl]
      exact w_ok_some ⟨rfl, h2, h3⟩
    by_cases hb1 : w_t_num T n p < 1
    · rw [if_pos hb1, if_pos (Or.inl hb1)]; exact bad
    · rw [if_neg hb1]
      by_cases hb2 : 3 < w_t_num T n p
      · rw [if_pos hb2, if_pos (Or.inr hb2)]; exact bad
      · rw [if_neg hb2, if_neg (fun h => h.elim hb1 hb2), w_k_bd, if_neg w_k_01, hs.2.2.2.2.1 h]
        exact w_incl hn hB hl hl2 hlay hs hw
  · rw [if_neg h, if_neg h]
    obtain ⟨u, h1, h2, h3⟩ := w_e67 (f := 1) hl hs (w_k_LW_JK hw)
    rw [h1, w_k_bd, if_pos w_k_b0, w_k_bd, if_pos rfl]
    exact w_ok_some ⟨rfl, h2, h3⟩
theorem w_ll_gen (hn : n ≤ 500) (hB : ∀ j, j < n → w_k_wi (T j) 0 255) (hl : 20 ≤ l) {F : g_S → Option (Int32 × g_S)} {φ : Nat → w_t_RB} (hF : w_k_SI T n l F φ)
    {L : g_S → Int32 → Int32 → Option (Int32 × g_S)} {G : g_S → Int32 → Int32 → Option ((Int32 × Int32 × g_S) ⊕ (Int32 × g_S))} (hL : ∀ s x y, L s x y = g_st (G s x y) (fun S => L S.2.2 S.1 S.2.1))
    (hG : ∀ s x y, G s x y = if x = 0 then (if m_isb x = true then some (.inr ((x, s))) else none) else (if y < (s 11 3) then (if (s 11 5) = 44 then ((f68 s).bind fun s5 => g_bd (F s5) fun v6 s7 => some (.inl (v6, (y + 1, s7)))) else (if m_isb x = true then some (.inr ((x, s))) else none)) else (if m_isb x = true then some (.inr ((x, s))) else none))) :
    ∀ (kf i : Nat) (s : g_S) (p p0 k : Nat) (cs : List w_q_C) (a b mix th : Int32) (xs : List Int32), i + kf = n → w_k_RS s T n l p → w_k_LW s l cs (a, (b, (th, xs))) mix k → p0 ≤ p →
      w_OK (L s 1 (nI i)) (fun w => match w_t_ll T n φ kf p th with
        | .inl e => w.1 = 0 ∧ w_k_FL w.2 T n l e ∧ w_k_fl l s w.2
        | .inr (q, v) => w.1 = 1 ∧ w_k_RS w.2 T n l q ∧ w_k_LW w.2 l cs (a, (b, (v, xs))) mix k ∧ w.2 11 9 = s 11 9 ∧ w_k_fl l s w.2 ∧ p0 ≤ q ∧ w.2 11 1 = s 11 1)
  | 0, i, s, p, p0, k, cs, a, b, mix, th, xs, hi, hs, hw, hp => by
    rw [hL, hG, if_neg w_k_01, hs.1.2.1, if_neg (w_k_nlt (by omega) (by omega) (by omega)), if_pos w_k_b1]
    exact w_ok_some ⟨rfl, hs, hw, rfl, fun _ _ _ => rfl, hp, rfl⟩
  | kf + 1, i, s, p, p0, k, cs, a, b, mix, th, xs, hi, hs, hw, hp => by
    rw [hL, hG, if_neg w_k_01, hs.1.2.1, if_pos ((w_k_lt (by omega) (by omega)).2 (by omega)), hs.2.2.2.1, if_pos w_k_b1]
    unfold w_t_ll
    by_cases h44 : w_t_kd T n p = 44
    · rw [if_pos h44, if_pos h44]
      have hpn : p < n := w_t_kdn (T := T) (by rw [h44]; decide)
      have hnx := w_t_nx_lt (T := T) hpn
      obtain ⟨u, p1, p2, p3⟩ := w_e68n hn hB hs
      have f1 : ∀ x b, x ≠ 11 → u x b = s x b := fun x b hx => p3 x b (by omega)
      obtain ⟨⟨v, t⟩, q1, q2⟩ := hF u (w_t_nx T n p) cs a b th xs mix k p2 (w_k_LW_11 hw hl f1)
      rw [p1, w_k_bs, q1, w_k_bd]
      cases hR : φ (w_t_nx T n p) with
      | inl e =>
        rw [hR] at q2
        obtain ⟨r1, r2, r3⟩ := q2
        dsimp only at r1 r2 r3
        rw [r1]
        show w_OK (L t 0 (nI i + 1)) _
        rw [hL, hG, if_pos rfl, if_pos w_k_b0]
        exact w_ok_some ⟨rfl, r2, w_k_fl_tr (w_k_fl_11 f1) r3⟩
      | inr e =>
        obtain ⟨q, w⟩ := e
        rw [hR] at q2
        obtain ⟨r1, r2, r3, r4, r5, r6, r7⟩ := q2
        dsimp only at r1 r2 r3 r4 r5 r6 r7
        rw [r1, w_k_s1]
        obtain ⟨z, z1, z2⟩ := w_ll_gen hn hB hl hF hL hG kf (i + 1) t q p0 k cs a b mix (th ||| w) xs (by omega) r2 r3 (by omega)
        refine ⟨z, z1, ?_⟩
        have hfr : w_k_fl l s t := w_k_fl_tr (w_k_fl_11 f1) r5
        have e9 : t 11 9 = s 11 9 := by rw [r4, p3 11 9 (by omega)]
        have w_e1 : t 11 1 = s 11 1 := by rw [r7, p3 11 1 (by omega)]
        dsimp only
        cases hS : w_t_ll T n φ kf q (th ||| w) with
        | inl e => rw [hS] at z2; exact ⟨z2.1, z2.2.1, w_k_fl_tr hfr z2.2.2⟩
        | inr e => rw [hS] at z2; exact ⟨z2.1, z2.2.1, z2.2.2.1, by rw [z2.2.2.2.1, e9], w_k_fl_tr hfr z2.2.2.2.2.1, z2.2.2.2.2.2.1, by rw [z2.2.2.2.2.2.2, w_e1]⟩
    · rw [if_neg h44, if_neg h44]
      exact w_ok_some ⟨rfl, hs, hw, rfl, fun _ _ _ => rfl, hp, rfl⟩
theorem w_list_gen (hn : n ≤ 500) (hB : ∀ j, j < n → w_k_wi (T j) 0 255) (hl : 20 ≤ l) {F : g_S → Option (Int32 × g_S)} {φ : Nat → w_t_RB} (hF : w_k_SI T n l F φ)
    {L : g_S → Int32 → Int32 → Option (Int32 × g_S)} {G : g_S → Int32 → Int32 → Option ((Int32 × Int32 × g_S) ⊕ (Int32 × g_S))} (hL : ∀ s x y, L s x y = g_st (G s x y) (fun S => L S.2.2 S.1 S.2.1))
    (hG : ∀ s x y, G s x y = if x = 0 then (if m_isb x = true then some (.inr ((x, s))) else none) else (if y < (s 11 3) then (if (s 11 5) = 44 then ((f68 s).bind fun s5 => g_bd (F s5) fun v6 s7 => some (.inl (v6, (y + 1, s7)))) else (if m_isb x = true then some (.inr ((x, s))) else none)) else (if m_isb x = true then some (.inr ((x, s))) else none)))
    {s : g_S} {p k : Nat} {cs : List w_q_C} {a b mix : Int32} {xs : List Int32} (hs : w_k_RS s T n l p) (hw : w_k_LW s l cs (a, (b, (0, xs))) mix k) :
    w_OK (g_bd (F s) fun v1 s2 => L s2 v1 0) (fun w => match w_t_list T n φ p with
        | .inl e => w.1 = 0 ∧ w_k_FL w.2 T n l e ∧ w_k_fl l s w.2
        | .inr (q, v) => w.1 = 1 ∧ w_k_RS w.2 T n l q ∧ w_k_LW w.2 l cs (a, (b, (v, xs))) mix k ∧ w.2 11 9 = s 11 9 ∧ w_k_fl l s w.2 ∧ p ≤ q ∧ w.2 11 1 = s 11 1) := by
  obtain ⟨⟨v, t⟩, q1, q2⟩ := hF s p cs a b 0 xs mix k hs hw
  rw [q1, w_k_bd]
  unfold w_t_list
  cases hR : φ p with
  | inl e =>
    rw [hR] at q2
    obtain ⟨r1, r2, r3⟩ := q2
    dsimp only at r1 r2 r3
    rw [r1, hL, hG, if_pos rfl, if_pos w_k_b0]
    exact w_ok_some ⟨rfl, r2, r3⟩
  | inr e =>
    obtain ⟨q, w⟩ := e
    rw [hR] at q2
    obtain ⟨r1, r2, r3, r4, r5, r6, r7⟩ := q2
    dsimp only at r1 r2 r3 r4 r5 r6 r7
    rw [r1]
    obtain ⟨z, z1, z2⟩ := w_ll_gen hn hB hl hF hL hG n 0 t q p k cs a b mix (0 ||| w) xs (by omega) r2 r3 r6
    refine ⟨z, z1, ?_⟩
    dsimp only
    cases hS : w_t_ll T n φ n q (0 ||| w) with
    | inl e => rw [hS] at z2; exact ⟨z2.1, z2.2.1, w_k_fl_tr r5 z2.2.2⟩
    | inr e => rw [hS] at z2; exact ⟨z2.1, z2.2.1, z2.2.2.1, by rw [z2.2.2.2.1, r4], w_k_fl_tr r5 z2.2.2.2.2.1, z2.2.2.2.2.2.1, by rw [z2.2.2.2.2.2.2, r7]⟩
def w_k_PC (T : Nat → Int32) (n l : Nat) (cs : List w_q_C) (mix : Int32) (p0 : Nat) (s : g_S) (R : w_t_RC) (w : Int32 × g_S) : Prop := match R with
  | .inl e => w.1 = 0 ∧ w_k_FL w.2 T n l e ∧ w_k_fl l s w.2
  | .inr (q, c) => w.1 = 1 ∧ w_k_RS w.2 T n l q ∧ (∃ k, k ≤ q ∧ w_k_LW w.2 l cs c mix k) ∧ w.2 11 9 = 0 ∧ w_k_fl l s w.2 ∧ p0 ≤ q ∧ w.2 11 1 = s 11 1
theorem w_PC_fr {cs : List w_q_C} {mix : Int32} {p0 p1 : Nat} {s t : g_S} {R : w_t_RC} {w : Int32 × g_S} (h : w_k_PC T n l cs mix p1 t R w) (hf : w_k_fl l s t) (hp : p0 ≤ p1) (h1 : t 11 1 = s 11 1) : w_k_PC T n l cs mix p0 s R w := by
  cases R with
  | inl e => exact ⟨h.1, h.2.1, w_k_fl_tr hf h.2.2⟩
  | inr e => exact ⟨h.1, h.2.1, h.2.2.1, h.2.2.2.1, w_k_fl_tr hf h.2.2.2.2.1, by have := h.2.2.2.2.2.1; omega, by rw [h.2.2.2.2.2.2, h1]⟩
theorem w_PC_of {cs : List w_q_C} {a b d mix : Int32} {k p : Nat} {s : g_S} {R : w_t_R} {w : Int32 × g_S} (h : w_k_PR T n l 0 cs a b d [] mix k p s R w) (hk : k ≤ p) : w_k_PC T n l cs mix p s (match R with | .inl e => .inl e | .inr (q, xs) => .inr (q, (a, (b, (d, xs))))) w := by
  cases R with
  | inl e => exact h
  | inr e =>
    obtain ⟨q, ys⟩ := e
    obtain ⟨r1, r2, r3, r4, r5, r6, r7⟩ := h
    exact ⟨r1, r2, ⟨k + ys.length, by omega, by rw [List.nil_append] at r3; exact r3⟩, r4, r5, by omega, r7⟩
noncomputable def w_y47 (s5 : g_S) (x1 : Int32) : Option (Int32 × g_S) := ((f72 s5 3).bind fun v7 => if v7 = ((-1)) then (g_bd (f67 s5 1) fun v9 s10 => if m_isb v9 = true then some ((v9, s10)) else none) else ((f74 s5 x1 6).bind fun v9 => if g_lay (s5 11 4).toNatClampNeg = o_4 (s5 11 4).toNatClampNeg then (f31 s5 ((s5 11 4).toNatClampNeg) v7 v9).bind fun s12 => (f68 s12).bind fun s14 => (if v7 = 2 then (g_bd (f57c s14) fun v16 s17 => if m_isb v16 = true then some ((v16, s17)) else none) else (if v7 = 3 then (g_bd (f50 s14) fun v17 s18 => if m_isb v17 = true then some ((v17, s18)) else none) else (if v7 = 4 then (some ((1, s14))) else (g_bd (f48 s14) fun v18 s19 => if v18 = 0 then (some ((0, s19))) else (g_bd (f65 s19 5) fun v21 s22 => if v21 = 0 then (some ((1, s22))) else (g_bd (f52c s22) fun v24 s25 => if v24 = 0 then (some ((0, s25))) else (some ((1, s25))))))))) else none))
theorem w_PC_says (hn : n ≤ 500) (hB : ∀ j, j < n → w_k_wi (T j) 0 255) (hl : 20 ≤ l) (hl2 : l < 565) (hlay : g_lay l = o_4 l) {s : g_S} {p k : Nat} {L : w_q_L} {x1 kb : Int32} (hkb : w_t_bits x1 = kb) (hs : w_k_RS s T n l p) (hw : w_k_LC s l L k) (ho : s 11 9 = 0) (hk : k ≤ p) (h24 : L.1.length < 24) :
    w_OK (w_y47 s x1) (w_k_PC T n l L.1 L.2 p s (w_t_says T n kb p)) := by
  unfold w_y47 w_t_says
  rw [w_e72 hn hs (by omega), w_k_bs]
  by_cases h : w_t_wof T n p 3 = -1
  · rw [if_pos h, if_pos h]
    obtain ⟨u, h1, h2, h3⟩ := w_e67 (f := 1) hl hs (w_k_LC_JK hw)
    rw [h1, w_k_bd, if_pos w_k_b0]
    exact w_ok_some ⟨rfl, h2, h3⟩
  · rw [if_neg h, if_neg h]
    have hpn := (w_t_wof_w h).2
    have hnx := w_t_nx_lt (T := T) hpn
    obtain ⟨z, z1, z2, z3⟩ := w_e31 (a := w_t_wof T n p 3) (b := kb) hw hl h24
    have w_e11 : z 11 = s 11 := z3 11 (by omega)
    obtain ⟨t, p1, p2, p3⟩ := w_e68n hn hB (w_k_RS_l hs hl z3)
    have f1 : ∀ x b, x ≠ 11 → t x b = z x b := fun x b hx => p3 x b (by omega)
    have hw1 := w_k_LW_11 z2 hl f1
    have ho1 : t 11 9 = nI 0 := by rw [p3 11 9 (by omega), w_e11]; exact ho
    have hf1 : w_k_fl l s t := w_k_fl_tr (w_k_fl_l z3) (w_k_fl_11 f1)
    have w_e1 : t 11 1 = s 11 1 := by rw [p3 11 1 (by omega), w_e11]
    rw [w_e74b, w_k_bs, hkb, w_k_l4 hl2 hs.1, if_pos hlay, z1, w_k_bs, p1, w_k_bs]
    by_cases c2 : w_t_wof T n p 3 = 2
    · rw [if_pos c2, if_pos c2]
      obtain ⟨⟨v, y⟩, q1, q2⟩ := w_SP_E hn hB hl hl2 hlay (o := 0) (by omega) t (w_t_nx T n p) L.1 (w_t_wof T n p 3) kb 0 [] L.2 k p2 hw1 ho1 (by omega)
      have q3 := w_PC_fr (w_PC_of q2 (by omega)) hf1 (show p ≤ w_t_nx T n p by omega) w_e1
      rw [q1, w_k_bd]
      cases hR : w_t_E T n (w_t_nx T n p) 0 with
      | inl e =>
        rw [hR] at q2
        have hv : v = 0 := q2.1
        subst hv
        rw [if_pos w_k_b0]
        exact w_ok_some ⟨rfl, q2.2.1, w_k_fl_tr hf1 q2.2.2⟩
      | inr e =>
        obtain ⟨q, ys⟩ := e
        rw [hR] at q2
        obtain ⟨r1, r2, r3, r4, r5, r6, r7⟩ := q2
        dsimp only at r1 r2 r3 r4 r5 r6 r7
        subst r1
        rw [if_pos w_k_b1]
        refine w_ok_some ⟨rfl, r2, ⟨k + ys.length, by omega, ?_⟩, r4, w_k_fl_tr hf1 r5, by omega, by dsimp only; rw [r7, w_e1]⟩
        rw [List.nil_append, c2] at r3; exact r3
    · rw [if_neg c2, if_neg c2]
      by_cases c3 : w_t_wof T n p 3 = 3
      · rw [if_pos c3, if_pos c3]
        unfold f50
        obtain ⟨⟨v, y⟩, q1, q2⟩ := w_list_gen hn hB hl (w_SI_term hn hB hl hl2 hlay) f50_5L_eq (fun s x y => rfl) p2 hw1
        rw [q1, w_k_bd]
        cases hR : w_t_list T n (w_t_term T n) (w_t_nx T n p) with
        | inl e =>
          rw [hR] at q2
          have hv : v = 0 := q2.1
          subst hv
          rw [if_pos w_k_b0]
          exact w_ok_some ⟨rfl, q2.2.1, w_k_fl_tr hf1 q2.2.2⟩
        | inr e =>
          obtain ⟨q, th⟩ := e
          rw [hR] at q2
          obtain ⟨r1, r2, r3, r4, r5, r6, r7⟩ := q2
          dsimp only at r1 r2 r3 r4 r5 r6 r7
          subst r1
          rw [if_pos w_k_b1]
          exact w_ok_some ⟨rfl, r2, ⟨k, by omega, by rw [c3] at r3; exact r3⟩, by dsimp only; rw [r4, ho1]; rfl, w_k_fl_tr hf1 r5, by omega, by dsimp only; rw [r7, w_e1]⟩
      · rw [if_neg c3, if_neg c3]
        by_cases c4 : w_t_wof T n p 3 = 4
        · rw [if_pos c4, if_pos c4]
          exact w_ok_some ⟨rfl, p2, ⟨k, by omega, by rw [c4] at hw1; exact hw1⟩, ho1, hf1, by omega, w_e1⟩
        · rw [if_neg c4, if_neg c4]
          unfold f48
          obtain ⟨⟨v, y⟩, q1, q2⟩ := w_list_gen hn hB hl (w_SI_harm hn hB hl hl2 hlay) f48_5L_eq (fun s x y => rfl) p2 hw1
          rw [q1, w_k_bd]
          cases hR : w_t_list T n (w_t_harm T n) (w_t_nx T n p) with
          | inl e =>
            rw [hR] at q2
            have hv : v = 0 := q2.1
            subst hv
            rw [if_pos rfl]
            exact w_ok_some ⟨rfl, q2.2.1, w_k_fl_tr hf1 q2.2.2⟩
          | inr e =>
            obtain ⟨q, th⟩ := e
            rw [hR] at q2
            obtain ⟨r1, r2, r3, r4, r5, r6, r7⟩ := q2
            dsimp only at r1 r2 r3 r4 r5 r6 r7
            subst r1
            rw [if_neg w_k_01]
            dsimp only
            by_cases hif : w_t_wof T n q 5 = 0
            · rw [if_pos hif, w_e65y hn r2 (by omega) hif, w_k_bdbs]
              have hqn := (w_t_wof_w (T := T) (n := n) (p := q) (k := 5) (by rw [hif]; decide)).2
              have hnx2 := w_t_nx_lt (T := T) hqn
              obtain ⟨t2, b1, b2, b3⟩ := w_e68n hn hB r2
              have f2 : ∀ x b, x ≠ 11 → t2 x b = y x b := fun x b hx => b3 x b (by omega)
              obtain ⟨⟨v2, y2⟩, d1, d2⟩ := w_SP_X hn hB hl hl2 hlay (o := 0) (by omega) t2 (w_t_nx T n q) L.1 (w_t_wof T n p 3) kb th [] L.2 k b2 (w_k_LW_11 r3 hl f2) (by rw [b3 11 9 (by omega), r4, ho1]) (by omega)
              have hf2 : w_k_fl l s t2 := w_k_fl_tr hf1 (w_k_fl_tr r5 (w_k_fl_11 f2))
              have w_e2 : t2 11 1 = s 11 1 := by rw [b3 11 1 (by omega), r7, w_e1]
              rw [b1, w_k_bs, if_neg w_k_01, d1, w_k_bd]
              cases hR2 : w_t_X T n (w_t_nx T n q) 0 with
              | inl e =>
                rw [hR2] at d2
                have hv : v2 = 0 := d2.1
                subst hv
                rw [if_pos rfl]
                exact w_ok_some ⟨rfl, d2.2.1, w_k_fl_tr hf2 d2.2.2⟩
              | inr e =>
                obtain ⟨r, ys⟩ := e
                rw [hR2] at d2
                obtain ⟨w1, w2, w3, w4, w5, w6, w7⟩ := d2
                dsimp only at w1 w2 w3 w4 w5 w6 w7
                subst w1
                rw [if_neg w_k_01]
                refine w_ok_some ⟨rfl, w2, ⟨k + ys.length, by omega, ?_⟩, w4, w_k_fl_tr hf2 w5, by omega, by dsimp only; rw [w7, w_e2]⟩
                rw [List.nil_append] at w3; exact w3
            · rw [if_neg hif, w_e65n hn r2 (by omega) hif, w_k_bd, if_pos rfl]
              exact w_ok_some ⟨rfl, r2, ⟨k, by omega, r3⟩, by dsimp only; rw [r4, ho1]; rfl, w_k_fl_tr hf1 r5, by omega, by dsimp only; rw [r7, w_e1]⟩
end RL
section RW
variable {T : Nat → Int32} {n l : Nat}
def w_k_PM (T : Nat → Int32) (n l : Nat) (p0 : Nat) (s : g_S) (R : w_t_RL) (w : Int32 × g_S) : Prop := match R with
  | .inl e => w.1 = 0 ∧ w_k_FL w.2 T n l e ∧ w_k_fl l s w.2
  | .inr (q, M) => w.1 = 1 ∧ w_k_RS w.2 T n l q ∧ (∃ k, k ≤ q ∧ w_k_LC w.2 l M k) ∧ w.2 11 9 = 0 ∧ w_k_fl l s w.2 ∧ p0 ≤ q ∧ w.2 11 1 = s 11 1
noncomputable def w_y39 (s : g_S) : Option (Int32 × g_S) := (g_bd (f64 s 59) fun v1 s2 => if v1 = 0 then (some ((0, s2))) else (some ((1, s2))))
noncomputable def w_y39K (v : Int32) (s : g_S) : Option (Int32 × g_S) := if v = 0 then some (0, s) else w_y39 s
noncomputable def w_y45 (s : g_S) : Option (Int32 × g_S) := g_bd (f45 s) w_y39K
theorem w_y39K0 (s : g_S) : w_y39K 0 s = some (0, s) := by unfold w_y39K; rw [if_pos rfl]
theorem w_y39K1 (s : g_S) : w_y39K 1 s = w_y39 s := by unfold w_y39K; rw [if_neg w_k_01]
theorem w_y45_eq (s : g_S) (x5 : Int32) : (g_bd (f45 s) fun v4 s5 => if v4 = 0 then (some (.inl (0, (x5 + 1, s5))) : Option ((Int32 × Int32 × g_S) ⊕ (Int32 × g_S))) else (g_bd (f64 s5 59) fun v7 s8 => if v7 = 0 then (some (.inl (0, (x5 + 1, s8)))) else (some (.inl (1, (x5 + 1, s8)))))) = g_bd (w_y45 s) fun v s5 => some (.inl (v, (x5 + 1, s5))) := by
  unfold w_y45
  cases f45 s with
  | none => rfl
  | some w =>
    obtain ⟨v, t⟩ := w
    show (if v = 0 then _ else _) = g_bd (w_y39K v t) _
    unfold w_y39K w_y39
    by_cases h : v = 0
    · rw [if_pos h, if_pos h]; rfl
    · rw [if_neg h, if_neg h]
      cases f64 t 59 with
      | none => rfl
      | some w =>
        obtain ⟨v2, t2⟩ := w
        show (if v2 = 0 then _ else _) = g_bd (if v2 = 0 then _ else _) _
        by_cases h2 : v2 = 0
        · rw [if_pos h2, if_pos h2]; rfl
        · rw [if_neg h2, if_neg h2]; rfl
theorem w_PM_end (hn : n ≤ 500) (hB : ∀ j, j < n → w_k_wi (T j) 0 255) (hl : 20 ≤ l) {s t : g_S} {q k p0 : Nat} {M : w_q_L} (hs : w_k_RS t T n l q) (hw : w_k_LC t l M k) (hk : k ≤ q) (ho : t 11 9 = 0) (hf : w_k_fl l s t) (hp : p0 ≤ q) (h1 : t 11 1 = s 11 1) :
    w_OK (w_y39 t) (w_k_PM T n l p0 s (w_t_end T n q M)) := by
  unfold w_y39 w_t_end
  by_cases h : w_t_kd T n q = 59
  · rw [if_pos h]
    have hqn : q < n := w_t_kdn (T := T) (by rw [h]; decide)
    have hnx := w_t_nx_lt (T := T) hqn
    obtain ⟨u, p1, p2, p3⟩ := w_e64 hn hB hs h
    have f1 : ∀ x b, x ≠ 11 → u x b = t x b := fun x b hx => p3 x b (by omega)
    rw [p1, w_k_bd, if_neg w_k_01]
    exact w_ok_some ⟨rfl, p2, ⟨k, by omega, w_k_LC_11 hw hl f1⟩, by dsimp only; rw [p3 11 9 (by omega)]; exact ho, w_k_fl_tr hf (w_k_fl_11 f1), by omega, by dsimp only; rw [p3 11 1 (by omega)]; exact h1⟩
  · rw [if_neg h]
    obtain ⟨u, p1, p2, p3⟩ := w_e64n (c := 59) hl hs (w_k_LC_JK hw) h
    rw [p1, w_k_bd, if_pos rfl]
    exact w_ok_some ⟨rfl, p2, w_k_fl_tr hf p3⟩
theorem w_PM_cl (hn : n ≤ 500) (hB : ∀ j, j < n → w_k_wi (T j) 0 255) (hl : 20 ≤ l) (hl2 : l < 565) (hlay : g_lay l = o_4 l) {s : g_S} {p k : Nat} {L : w_q_L} (hs : w_k_RS s T n l p) (hw : w_k_LC s l L k) (ho : s 11 9 = 0) (hk : k ≤ p) :
    w_OK (w_y45 s) (w_k_PM T n l p s (w_t_cl T n p L)) := by
  have hL24 := hw.1.2.2.1
  unfold w_y45 f45 w_t_cl
  rw [w_e72 hn hs (by omega), w_k_bs, w_e71 hn hs (by omega), w_k_bs]
  have bad : ∀ f : Int32, w_OK (g_bd (g_bd (f67 s f) fun v5 s6 => if m_isb v5 = true then some (v5, s6) else none) w_y39K) (w_k_PM T n l p s (.inl (f, p))) := by
    intro f
    obtain ⟨u, h1, h2, h3⟩ := w_e67 (f := f) hl hs (w_k_LC_JK hw)
    rw [h1, w_k_bd, if_pos w_k_b0, w_k_bd, w_y39K0]
    exact w_ok_some ⟨rfl, h2, h3⟩
  have go : ∀ x2 : Int32, x2 = (if w_t_wof T n p 1 = 0 then 1 else 0) → ¬ (w_t_wof T n p 0 = -1 ∧ ¬ w_t_wof T n p 1 = 0) → w_OK (g_bd (f45_17 s (w_t_wof T n p 0) x2) w_y39K) (w_k_PM T n l p s (if ¬ L.1.length < 24 then .inl (3, p)
      else if w_t_wof T n p 1 = 0 then (if w_t_wof T n (w_t_nx T n p) 2 = -1 then .inl (1, w_t_nx T n p) else w_t_end T n (w_t_nx T n (w_t_nx T n p)) (L.1 ++ [(5, (0, (0, [])))], w_t_wof T n (w_t_nx T n p) 2))
      else (match w_t_says T n (w_t_bits (w_t_wof T n p 0)) (w_t_nx T n p) with
        | .inl e => .inl e
        | .inr (q, c) => w_t_end T n q (L.1 ++ [c], L.2)))) := by
    intro x2 hx2 hno
    unfold f45_17 f30
    rw [w_k_l4 hl2 hs.1, if_pos hlay, hw.1.2.1]
    by_cases h24 : L.1.length < 24
    · rw [if_pos (show nI L.1.length < 24 from (w_k_lt (b := 24) (by omega) (by omega)).2 h24), w_k_bs, if_pos rfl, if_neg (fun h => h h24)]
      have hpn : p < n := by
        by_cases h0 : w_t_wof T n p 0 = -1
        · have h1 : w_t_wof T n p 1 = 0 := by
            by_cases h1 : w_t_wof T n p 1 = 0
            · exact h1
            · exact absurd ⟨h0, h1⟩ hno
          exact (w_t_wof_w (T := T) (n := n) (p := p) (k := 1) (by rw [h1]; decide)).2
        · exact (w_t_wof_w h0).2
      have hnx := w_t_nx_lt (T := T) hpn
      obtain ⟨t, p1, p2, p3⟩ := w_e68n hn hB hs
      have f1 : ∀ x b, x ≠ 11 → t x b = s x b := fun x b hx => p3 x b (by omega)
      have hw1 := w_k_LC_11 hw hl f1
      have ho1 : t 11 9 = 0 := by rw [p3 11 9 (by omega)]; exact ho
      have w_e1 : t 11 1 = s 11 1 := p3 11 1 (by omega)
      rw [p1, w_k_bs]
      by_cases hm : w_t_wof T n p 1 = 0
      · rw [if_pos hm] at hx2 ⊢
        rw [hx2, if_neg w_k_01]
        unfold f46
        rw [w_e72 hn p2 (by omega), w_k_bs]
        by_cases h2 : w_t_wof T n (w_t_nx T n p) 2 = -1
        · rw [if_pos h2, if_pos h2]
          obtain ⟨u, h1, h2, h3⟩ := w_e67 (f := 1) hl p2 (w_k_LC_JK hw1)
          rw [h1, w_k_bd, if_pos w_k_b0, w_k_bd, if_pos w_k_b0, w_k_bd, w_y39K0]
          exact w_ok_some ⟨rfl, h2, w_k_fl_tr (w_k_fl_11 f1) h3⟩
        · rw [if_neg h2, if_neg h2]
          obtain ⟨z, z1, z2, z3⟩ := w_e31 (a := 5) (b := 0) hw1 hl h24
          have w_e11 : z 11 = t 11 := z3 11 (by omega)
          have hsz := w_k_RS_l p2 hl z3
          rw [w_k_l4 hl2 p2.1, if_pos hlay, z1, w_k_bs, w_k_l4 hl2 hsz.1, if_pos hlay, w_k_let]
          have fz : ∀ x, ¬ (l ≤ x ∧ x ≤ l + 6) → g_w z l 0 (w_t_wof T n (w_t_nx T n p) 2) x = z x := fun x hx => w_k_wn (by omega)
          have hsz2 := w_k_RS_l hsz hl fz
          obtain ⟨y, y1, y2, y3⟩ := w_e68n hn hB hsz2
          have f3 : ∀ x b, x ≠ 11 → y x b = g_w z l 0 (w_t_wof T n (w_t_nx T n p) 2) x b := fun x b hx => y3 x b (by omega)
          have hLW : w_k_LW (g_w z l 0 (w_t_wof T n (w_t_nx T n p) 2)) l L.1 (5, (0, (0, []))) (w_t_wof T n (w_t_nx T n p) 2) k := by
            obtain ⟨⟨r0, r1, r2, r3⟩, h8, he, h5, hle⟩ := z2
            refine ⟨⟨w_k_wv, ?_, r2, fun i c hc => ?_⟩, ?_, ?_, h5, fun i hi => ?_⟩
            · rw [w_k_wq (by omega)]; exact r1
            · have := r3 i c hc
              simp (disch := omega) only [w_k_wn]; exact this
            · rw [w_k_wq (by omega)]; exact h8
            · rw [w_k_wn (by omega)]; exact he
            · rw [w_k_wn (by omega)]; exact hle i hi
          have hnx2 := w_t_nx_le (T := T) p2.2.2.2.2.2
          rw [y1, w_k_bs, w_k_bd, if_pos w_k_b1, w_k_bd, w_y39K1]
          refine w_PM_end hn hB hl y2 (w_k_LC_11 (w_k_LW_LC hLW) hl f3) (by omega) ?_ (w_k_fl_tr (w_k_fl_11 f1) (w_k_fl_tr (w_k_fl_l z3) (w_k_fl_tr (w_k_fl_l fz) (w_k_fl_11 f3)))) (by omega) ?_
          · rw [y3 11 9 (by omega), w_k_wn (by omega), w_e11]; exact ho1
          · rw [y3 11 1 (by omega), w_k_wn (by omega), w_e11]; exact w_e1
      · rw [if_neg hm] at hx2 ⊢
        rw [hx2, if_pos rfl]
        obtain ⟨⟨v, y⟩, q1, q2⟩ := w_PC_says (x1 := w_t_wof T n p 0) (hkb := rfl) hn hB hl hl2 hlay p2 hw1 ho1 (by omega) h24
        show w_OK (g_bd (w_y47 t (w_t_wof T n p 0)) w_y39K) _
        rw [q1, w_k_bd]
        cases hR : w_t_says T n (w_t_bits (w_t_wof T n p 0)) (w_t_nx T n p) with
        | inl e =>
          rw [hR] at q2
          have hv : v = 0 := q2.1
          subst hv
          rw [w_y39K0]
          exact w_ok_some ⟨rfl, q2.2.1, w_k_fl_tr (w_k_fl_11 f1) q2.2.2⟩
        | inr e =>
          obtain ⟨q, c⟩ := e
          rw [hR] at q2
          obtain ⟨r1, r2, ⟨k2, hk2, r3⟩, r4, r5, r6, r7⟩ := q2
          dsimp only at r1 r2 r3 r4 r5 r6 r7
          subst r1
          rw [w_y39K1]
          exact w_PM_end hn hB hl r2 (w_k_LW_LC r3) hk2 r4 (w_k_fl_tr (w_k_fl_11 f1) r5) (by omega) (by rw [r7, w_e1])
    · rw [if_neg (show ¬ nI L.1.length < 24 from w_k_nlt (b := 24) (by omega) (by omega) h24), w_k_bs, if_neg w_k_01, if_pos h24]
      exact bad 3
  by_cases h0 : w_t_wof T n p 0 = -1
  · rw [if_pos h0]
    by_cases h1 : w_t_wof T n p 1 = 0
    · rw [if_pos h1, if_neg w_k_01, if_neg (fun h => h.2 h1), h0]
      have := go 1 (by rw [if_pos h1]) (fun h => h.2 h1)
      rw [h0, if_pos h1] at this
      rw [if_pos h1]
      exact this
    · rw [if_neg h1, if_pos rfl, if_pos (show w_t_wof T n p 0 = -1 ∧ ¬ w_t_wof T n p 1 = 0 from ⟨h0, h1⟩)]
      exact bad 1
  · rw [if_neg h0, if_neg (show ¬ (w_t_wof T n p 0 = -1 ∧ ¬ w_t_wof T n p 1 = 0) from fun h => h0 h.1)]
    exact go _ rfl (fun h => h0 h.1)
theorem w_e44_33 (hn : n ≤ 500) (hB : ∀ j, j < n → w_k_wi (T j) 0 255) (hl : 20 ≤ l) (hl2 : l < 565) (hlay : g_lay l = o_4 l) (p2 : Int32) (p3 : Nat) : ∀ (kf i : Nat) (s : g_S) (p k : Nat) (L : w_q_L), i + kf = 25 → w_k_RS s T n l p → w_k_LC s l L k → s 11 9 = 0 → k ≤ p → s 11 1 = 0 →
    ∃ v u, f44_33L s p2 p3 1 (nI i) = some (v, u) ∧ w_k_fl l s u ∧ match w_t_ps T n kf p L with
      | .inl e => v = e.1 ∧ u 11 0 = nI e.2
      | .inr M => v = 0 ∧ w_k_LR u l M
  | 0, i, s, p, k, L, hi, hs, hw, ho, hk, h1 => by
    rw [f44_33L_eq]; unfold f44_33 w_t_ps
    rw [if_neg w_k_01, if_pos (show (24 : Int32) < nI i from (w_k_lt (a := 24) (by omega) (by omega)).2 (by omega)), h1]
    exact ⟨_, s, rfl, fun _ _ _ => rfl, rfl, hw.1⟩
  | kf + 1, i, s, p, k, L, hi, hs, hw, ho, hk, h1 => by
    rw [f44_33L_eq]; unfold f44_33 w_t_ps
    rw [if_neg w_k_01, if_neg (show ¬ (24 : Int32) < nI i from w_k_nlt (a := 24) (by omega) (by omega) (by omega)), hs.2.2.2.1]
    by_cases h258 : w_t_kd T n p = 258
    · rw [if_pos h258, if_pos h258, h1]
      exact ⟨_, s, rfl, fun _ _ _ => rfl, rfl, hw.1⟩
    · rw [if_neg h258, if_neg h258, w_y45_eq]
      obtain ⟨⟨v, t⟩, q1, q2⟩ := w_PM_cl hn hB hl hl2 hlay hs hw ho hk
      rw [q1, w_k_bd]
      cases hR : w_t_cl T n p L with
      | inl e =>
        rw [hR] at q2
        obtain ⟨r1, r2, r3⟩ := q2
        dsimp only at r1 r2 r3
        rw [r1]
        show ∃ v u, f44_33L t p2 p3 0 (nI i + 1) = some (v, u) ∧ _
        rw [f44_33L_eq]; unfold f44_33
        rw [if_pos rfl]
        exact ⟨_, t, rfl, r3, r2.2.1, r2.2.2.1⟩
      | inr e =>
        obtain ⟨q, M⟩ := e
        rw [hR] at q2
        obtain ⟨r1, r2, ⟨k2, hk2, r3⟩, r4, r5, r6, r7⟩ := q2
        dsimp only at r1 r2 r3 r4 r5 r6 r7
        rw [r1, w_k_s1]
        obtain ⟨v2, u, z1, z2, z3⟩ := w_e44_33 hn hB hl hl2 hlay p2 p3 kf (i + 1) t q k2 M (by omega) r2 r3 r4 hk2 (by rw [r7, h1])
        exact ⟨v2, u, z1, w_k_fl_tr r5 z2, z3⟩
theorem w_e44 {s : g_S} (hT : ∀ j, j < n → s 1 j = T j) (hn : n ≤ 500) (hB : ∀ j, j < n → w_k_wi (T j) 0 255) (hl : 20 ≤ l) (hl2 : l < 565) (hlay : g_lay l = o_4 l) :
    ∃ v u, f44 s (nI n) l = some (v, u) ∧ w_k_fl l s u ∧ match w_t_law T n with
      | .inl e => v = e.1 ∧ u 11 0 = nI e.2
      | .inr M => v = 0 ∧ w_k_LR u l M := by
  have hmin : g_min (nI n) (Int32.ofNat 500) = nI n := by
    unfold g_min
    by_cases h : Int32.ofNat 500 < nI n
    · rw [if_pos h]
      have := (w_k_lt (a := 500) (by omega) (by omega)).1 (show nI 500 < nI n from h)
      omega
    · rw [if_neg h]
  unfold f44 w_t_law
  rw [hmin]
  have hl4 : g_w (g_w (g_w s 11 2 (Int32.ofNat 1)) 11 3 (nI n)) 11 4 (Int32.ofNat l) 11 4 = nI l := w_k_wv
  simp only [w_k_let, hl4]
  rw [w_k_nat (by omega), if_pos hlay]
  unfold f29
  simp only [w_k_let, w_k_bs]
  generalize ht : g_w (g_w (g_w (g_w (g_w (g_w (g_w (g_w (g_w (g_w s 11 2 (Int32.ofNat 1)) 11 3 (nI n)) 11 4 (Int32.ofNat l)) l 1 0) l 8 0) l 0 (-1)) 11 1 0) 11 0 (-1)) 11 9 0) 11 7 0 = t
  have ft : ∀ x, x ≠ 11 → x ≠ l → t x = s x := fun x h1 h2 => by rw [← ht]; simp (disch := omega) only [w_k_wn]
  have h2 : t 11 2 = 1 := by rw [← ht]; simp (disch := omega) only [w_k_wq, w_k_wv]; rfl
  have h3 : t 11 3 = nI n := by rw [← ht]; simp (disch := omega) only [w_k_wq, w_k_wv]
  have h4 : t 11 4 = nI l := by rw [← ht]; simp (disch := omega) only [w_k_wq, w_k_wv]; rfl
  have h1 : t 11 1 = 0 := by rw [← ht]; simp (disch := omega) only [w_k_wq, w_k_wv]
  have h9 : t 11 9 = 0 := by rw [← ht]; simp (disch := omega) only [w_k_wq, w_k_wv]
  have h7 : t 11 7 = nI 0 := by rw [← ht]; simp (disch := omega) only [w_k_wq, w_k_wv]; rfl
  have hl0 : t l 0 = -1 := by rw [← ht]; simp (disch := omega) only [w_k_wq, w_k_wv]
  have hl1 : t l 1 = nI 0 := by rw [← ht]; simp (disch := omega) only [w_k_wq, w_k_wv]; rfl
  have hl8 : t l 8 = nI 0 := by rw [← ht]; simp (disch := omega) only [w_k_wq, w_k_wv]; rfl
  have h11 : t 1 = s 1 := ft 1 (by omega) (by omega)
  have hRT : w_k_RT t T n l := ⟨h2, h3, h4, fun j hj => by rw [h11]; exact hT j hj⟩
  obtain ⟨u, p1, p2, p3⟩ := w_e68 hn hB (e := 0) (by omega) hRT h7
  have f1 : ∀ x b, x ≠ 11 → u x b = t x b := fun x b hx => p3 x b (by omega)
  have hLC : w_k_LC u l ([], -1) 0 := ⟨⟨by rw [f1 l 0 (by omega)]; exact hl0, by rw [f1 l 1 (by omega)]; exact hl1, by decide, fun i c hc => by cases hc⟩, by rw [f1 l 8 (by omega)]; exact hl8, by omega, fun i hi => absurd hi (Nat.not_lt_zero _)⟩
  obtain ⟨v, z, z1, z2, z3⟩ := w_e44_33 hn hB hl hl2 hlay (nI n) l 25 0 u (w_t_sk T n 0) 0 ([], -1) (by omega) p2 hLC (by rw [p3 11 9 (by omega)]; exact h9) (by omega) (by rw [p3 11 1 (by omega)]; exact h1)
  rw [p1, w_k_bs]
  refine ⟨v, z, z1, fun x hx1 hx2 => ?_, z3⟩
  rw [z2 x hx1 hx2, show u x = t x from funext fun b => f1 x b hx1, ft x hx1 (by omega)]
end RW
