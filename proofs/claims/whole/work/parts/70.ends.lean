section EM3
variable {TR : w_k_TR} {s : g_S} {V : w_k_V} {L : w_q_L} {n : Nat} {p : Int32}
theorem w_e136 (s : g_S) (a b : Int32) : f136 s a b = some (g_min a b) := by
  unfold f136; rw [← w_k_min]; split <;> rfl
theorem w_e182_228 {t0 : g_S} (hV : w_k_Vok n V) (h34 : t0 199 34 = nI (w_o_hol V)) (w : Int32) : ∀ (d k : Nat) (t : g_S), k + d = w_o_hol V → (∀ y, y ≠ 242 → t y = t0 y) → (∀ j, 1 ≤ j → j < 13 → t 242 j = if j ≤ k then t0 240 j - t0 241 j else t0 242 j) →
      ∃ u, f182_228L t p w (nI (k + 1)) = some u ∧ (∀ y, y ≠ 242 → u y = t0 y) ∧ u 242 0 = w ∧ (∀ j, 1 ≤ j → j < 13 → u 242 j = if j ≤ w_o_hol V then t0 240 j - t0 241 j else t0 242 j)
  | 0, k, t, hk, h1, h2 => by
    have hh := w_o_hol_lt hV
    have e' : k = w_o_hol V := by omega
    subst e'
    rw [f182_228L_eq]; unfold f182_228 f182_247
    rw [h1 199 (by omega), h34, if_pos ((w_k_lt (by omega) (by omega)).2 (by omega)), w_k_let]
    refine ⟨_, rfl, fun y hy => by rw [w_k_wn hy, h1 y hy], w_k_wv, fun j hj1 hj => by rw [w_k_wq (by omega)]; exact h2 j hj1 hj⟩
  | d + 1, k, t, hk, h1, h2 => by
    have hh := w_o_hol_lt hV
    rw [f182_228L_eq]; unfold f182_228
    rw [h1 199 (by omega), h34, if_neg (w_k_nlt (by omega) (by omega) (by omega)), if_pos (w_k_hin (by omega)), w_k_nat (by omega), w_k_let, h1 240 (by omega), h1 241 (by omega), w_k_s1]
    refine w_e182_228 hV h34 w d (k + 1) _ (by omega) (fun y hy => by dsimp only; rw [w_k_wn hy, h1 y hy]) (fun j hj1 hj => ?_)
    dsimp only
    by_cases e : j = k + 1
    · subst e; rw [w_k_wv, if_pos (by omega)]
    · rw [w_k_wq (by omega), h2 j hj1 hj]
      by_cases g : j ≤ k
      · rw [if_pos g, if_pos (by omega)]
      · rw [if_neg g, if_neg (by omega)]
theorem w_e182_197 {t0 : g_S} (hV : w_k_Vok n V) (x : (Nat → Int32) × Int32) (h34 : t0 199 34 = nI (w_o_hol V)) (h239 : ∀ k, 1 ≤ k → k ≤ w_o_hol V → t0 239 k = w_o_whom1 V k) (h242 : ∀ k, k < 13 → t0 242 k = 0) :
    ∀ (d k : Nat) (t : g_S), k + d = w_o_hol V → (∀ y, y ≠ 240 → t y = t0 y) → (∀ j, j < 13 → t 240 j = (w_o_own V k x).1 j) →
      ∃ u, f182_197L t p (V 1 - (w_o_own V k x).2) (nI (k + 1)) = some u ∧ (∀ y, y ≠ 240 → y ≠ 242 → u y = t0 y) ∧ (∀ j, j < 13 → u 240 j = (w_o_own V (w_o_hol V) x).1 j) ∧
        (∀ j, j < 13 → u 242 j = if j = 0 then V 1 - (w_o_own V (w_o_hol V) x).2 else if j ≤ w_o_hol V then (w_o_own V (w_o_hol V) x).1 j - t0 241 j else 0)
  | 0, k, t, hk, h1, h2 => by
    have hh := w_o_hol_lt hV
    have e' : k = w_o_hol V := by omega
    subst e'
    rw [f182_197L_eq]; unfold f182_197
    rw [h1 199 (by omega), h34, if_pos ((w_k_lt (by omega) (by omega)).2 (by omega))]
    obtain ⟨u, q1, q2, q3, q4⟩ := w_e182_228 (p := p) (t0 := t) hV (by rw [h1 199 (by omega)]; exact h34) (V 1 - (w_o_own V (w_o_hol V) x).2) (w_o_hol V) 0 t (by omega) (fun _ _ => rfl) (fun j hj1 hj => by rw [if_neg (by omega)])
    rw [show f182_228L t p (V 1 - (w_o_own V (w_o_hol V) x).2) 1 = some u from q1]
    refine ⟨u, rfl, fun y g1 g2 => by rw [q2 y g2, h1 y g1], fun j hj => by rw [q2 240 (by omega)]; exact h2 j hj, fun j hj => ?_⟩
    by_cases e : j = 0
    · subst e; rw [if_pos rfl, q3]
    · rw [if_neg e, q4 j (by omega) hj, h2 j hj, h1 241 (by omega), h1 242 (by omega), h242 j hj]
  | d + 1, k, t, hk, h1, h2 => by
    have hh := w_o_hol_lt hV
    have eo : w_o_own V (k + 1) x = if w_o_whom1 V (k + 1) = 0 then (upd (w_o_own V k x).1 (k + 1) (g_min ((w_o_own V k x).1 (k + 1)) (V 1 - (w_o_own V k x).2)), (w_o_own V k x).2 + g_min ((w_o_own V k x).1 (k + 1)) (V 1 - (w_o_own V k x).2)) else w_o_own V k x := rfl
    obtain ⟨j0, hj0, ej0⟩ := w_o_whom_n (V := V) (k := k + 1) (by omega)
    rw [f182_197L_eq]; unfold f182_197
    rw [h1 199 (by omega), h34, if_neg (w_k_nlt (by omega) (by omega) (by omega)), if_pos (w_k_hin (by omega)), w_k_nat (by omega), h1 239 (by omega), h239 (k + 1) (by omega) (by omega), w_k_s1]
    by_cases hw : w_o_whom1 V (k + 1) = 0
    · rw [if_pos hw] at eo
      rw [if_neg (show ¬ 0 < w_o_whom1 V (k + 1) by rw [hw]; decide), h2 (k + 1) (by omega), w_e136, w_k_bs, w_k_let, w_k_wv]
      have el : V 1 - (w_o_own V k x).2 - g_min ((w_o_own V k x).1 (k + 1)) (V 1 - (w_o_own V k x).2) = V 1 - (w_o_own V (k + 1) x).2 := by rw [eo]; dsimp only; grind
      rw [el]
      refine w_e182_197 hV x h34 h239 h242 d (k + 1) _ (by omega) (fun y hy => by dsimp only; rw [w_k_wn hy, h1 y hy]) (fun j hj => ?_)
      rw [eo]; dsimp only
      by_cases e : j = k + 1
      · subst e; rw [w_k_wv, w_k_ue]
      · rw [w_k_wq (by omega), w_k_un e]; exact h2 j hj
    · rw [if_neg hw] at eo
      have hpos : 0 < w_o_whom1 V (k + 1) := by
        rw [ej0] at hw ⊢
        have : j0 ≠ 0 := fun e => hw (by rw [e]; rfl)
        exact (w_k_lt (a := 0) (by omega) (by omega)).2 (by omega)
      rw [if_pos hpos]
      have ih := w_e182_197 hV x h34 h239 h242 d (k + 1) t (by omega) h1 (by rw [eo]; exact h2)
      rw [eo] at ih
      exact ih
theorem w_e182_151 {t0 : g_S} (hV : w_k_Vok n V) (hM : w_k_MV t0 V) (h34 : t0 199 34 = nI (w_o_hol V)) (h238 : ∀ k, 1 ≤ k → k ≤ w_o_hol V → t0 238 k = w_o_claim1 V L k) (h239 : ∀ k, 1 ≤ k → k ≤ w_o_hol V → t0 239 k = w_o_whom1 V k) (h242 : ∀ k, k < 13 → t0 242 k = 0) :
    ∀ (k : Nat) (x : w_o_PG) (t : g_S), k ≤ w_o_hol V → w_o_up V L k x = w_o_PG1 V L → (∀ y, y ≠ 240 → y ≠ 241 → t y = t0 y) → (∀ j, j < 13 → t 240 j = x.1 j ∧ t 241 j = x.2 j) →
      ∃ u, f182_151L t p (nI k) = some u ∧ (∀ y, y ≠ 240 → y ≠ 241 → y ≠ 242 → u y = t0 y) ∧ (∀ j, j < 13 → u 240 j = (w_o_PO V L).1 j) ∧
        (∀ j, j < 13 → u 242 j = if j = 0 then V 1 - (w_o_PO V L).2 else if j ≤ w_o_hol V then (w_o_PO V L).1 j - (w_o_PG1 V L).2 j else 0)
  | 0, x, t, hk, hx, h1, h2 => by
    have hx' : x = w_o_PG1 V L := hx
    subst hx'
    rw [f182_151L_eq]; unfold f182_151
    rw [if_neg (by decide), h1 199 (by omega) (by omega), hM.1.2.1]
    obtain ⟨u, q1, q2, q3, q4⟩ := w_e182_197 (p := p) (t0 := t) hV ((w_o_PG1 V L).1, 0) (by rw [h1 199 (by omega) (by omega)]; exact h34) (fun k g1 g2 => by rw [h1 239 (by omega) (by omega)]; exact h239 k g1 g2) (fun k hk => by rw [h1 242 (by omega) (by omega)]; exact h242 k hk) (w_o_hol V) 0 t (by omega) (fun _ _ => rfl) (fun j hj => (h2 j hj).1)
    have e0 : V 1 - (w_o_own V 0 ((w_o_PG1 V L).1, 0)).2 = V 1 := by show V 1 - 0 = V 1; grind
    rw [e0] at q1
    rw [show f182_197L t p (V 1) 1 = some u from q1]
    refine ⟨u, rfl, fun y g1 g2 g3 => by rw [q2 y g1 g3, h1 y g1 g2], q3, fun j hj => ?_⟩
    rw [q4 j hj, (h2 j hj).2]; rfl
  | k + 1, x, t, hk, hx, h1, h2 => by
    have hb := w_k_Vb hV
    have hh := w_o_hol_lt hV
    rw [f182_151L_eq]; unfold f182_151
    have hp5 : t 222 (k + 1) = V (15 + 12 * (k + 1)) := by rw [h1 _ (by omega) (by omega)]; exact (hM.2.2.1 (k + 1) (by omega)).1
    rw [if_pos (show (0 : Int32) < nI (k + 1) from (w_k_lt (a := 0) (by omega) (by omega)).2 (by omega)), if_pos (w_k_hin (by omega)), w_k_nat (by omega), w_e136, w_k_bs, w_k_let, w_k_p1, w_k_wn (by omega), h1 238 (by omega) (by omega), h238 (k + 1) (by omega) hk, h1 239 (by omega) (by omega), h239 (k + 1) (by omega) hk, hp5, (h2 (k + 1) (by omega)).2]
    obtain ⟨j, hj, ej⟩ := w_o_whom_n (V := V) (k := k + 1) (by omega)
    have hx2 : w_o_up V L k (w_o_up1 V L (k + 1) x) = w_o_PG1 V L := hx
    by_cases hw : 0 < w_o_whom1 V (k + 1)
    · rw [if_pos hw]
      have eu : (w_o_up1 V L (k + 1) x).2 = upd x.2 j (x.2 j + g_min (w_o_claim1 V L (k + 1)) (V (15 + 12 * (k + 1)) + x.2 (k + 1))) := by
        unfold w_o_up1; dsimp only; rw [if_pos hw, ej, w_k_nat (by omega)]
      rw [ej] at hw ⊢
      rw [if_pos (w_k_hin (by omega)), w_k_nat (by omega), w_k_wn (by omega), w_k_wv]
      refine w_e182_151 hV hM h34 h238 h239 h242 k _ _ (by omega) hx2 (fun y h3 h4 => by dsimp only; rw [w_k_wn h4, w_k_wn h3, h1 y h3 h4]) (fun i hi => ?_)
      rw [eu]
      constructor
      · unfold w_o_up1; dsimp only
        rw [w_k_wn (by omega)]
        by_cases e : i = k + 1
        · subst e; rw [w_k_wv, w_k_ue]
        · rw [w_k_wq (by omega), w_k_un e]; exact (h2 i hi).1
      · dsimp only
        by_cases e : i = j
        · subst e; rw [w_k_wv, w_k_ue, (h2 i hi).2]
        · rw [w_k_wq (by omega), w_k_un e, w_k_wn (by omega)]; exact (h2 i hi).2
    · rw [if_neg hw]
      refine w_e182_151 hV hM h34 h238 h239 h242 k _ _ (by omega) hx2 (fun y h3 h4 => by dsimp only; rw [w_k_wn h3, h1 y h3 h4]) (fun i hi => ?_)
      unfold w_o_up1
      dsimp only
      rw [if_neg hw]
      constructor
      · by_cases e : i = k + 1
        · subst e; rw [w_k_wv, w_k_ue]
        · rw [w_k_wq (by omega), w_k_un e]; exact (h2 i hi).1
      · rw [w_k_wn (by omega)]; exact (h2 i hi).2
def w_o_oath (V : w_k_V) (L : w_q_L) (k : Nat) : Bool := if V 2 ≠ -1 ∧ 1 ≤ k ∧ k ≤ w_o_hol V then w_o_oath1 V L k else false
def w_o_twice (V : w_k_V) (L : w_q_L) (k : Nat) : Bool := if V 2 ≠ -1 ∧ 1 ≤ k ∧ k ≤ w_o_hol V then w_q_twice L (V (10 + 12 * k)) else false
def w_o_ME (u : g_S) (V : w_k_V) (L : w_q_L) : Prop := u 199 34 = w_k_holder V ∧ (∀ k, k < 13 → u 238 k = w_o_claim V L k ∧ u 239 k = w_o_whom V k ∧ u 240 k = w_o_pays V L k ∧ u 242 k = w_o_bears V L k ∧ u 243 k = w_q_b (w_o_oath V L k) ∧ u 244 k = w_q_b (w_o_twice V L k)) ∧
  ∀ k, V 2 ≠ -1 → 1 ≤ k → k ≤ w_o_hol V → ∀ i, i < 8 → u (246 + k) i = w_o_nm V L k i
theorem w_e182_51 (HA : w_k_HA TR) {t0 : g_S} (hV : w_k_Vok n V) (hon : V 2 ≠ -1) (H : w_k_ML TR t0 p L) (hM : w_k_MV t0 V) (h34 : t0 199 34 = nI (w_o_hol V)) (h0 : ∀ k, k < 13 → t0 240 k = 0 ∧ t0 241 k = 0 ∧ t0 242 k = 0) :
    ∀ (d k : Nat) (t : g_S), 1 ≤ k → k + d = w_o_hol V + 1 → (∀ y b, ¬ (y = 199 ∧ b = 34) → ¬ (y = 240 ∨ y = 241 ∨ y = 242) → ¬ w_k_sE y b → t y b = t0 y b) → t 199 34 = t0 199 34 → t 240 = t0 240 → t 241 = t0 241 → t 242 = t0 242 →
      (∀ j, j < 13 → t 238 j = (if 1 ≤ j ∧ j < k then w_o_claim1 V L j else 0) ∧ t 239 j = (if 1 ≤ j ∧ j < k then w_o_whom1 V j else -1) ∧ t 243 j = (if 1 ≤ j ∧ j < k then w_q_b (w_o_oath1 V L j) else 0) ∧ t 244 j = (if 1 ≤ j ∧ j < k then w_q_b (w_q_twice L (V (10 + 12 * j))) else 0)) →
      (∀ j, 1 ≤ j → j < k → ∀ i, i < 8 → t (246 + j) i = w_o_nm V L j i) →
      ∃ u, f182_51L t p (nI k) = some u ∧ w_o_ME u V L ∧ ∀ x b, ¬ w_k_sE x b → u x b = t0 x b
  | 0, k, t, h1, hk, h2, g34, g240, g241, g242, h3, h4 => by
    have hb := w_k_Vb hV
    have hh := w_o_hol_lt hV
    have e' : k = w_o_hol V + 1 := by omega
    subst e'
    rw [f182_51L_eq]; unfold f182_51
    rw [g34, h34, if_pos ((w_k_lt (by omega) (by omega)).2 (by omega))]
    have fr : ∀ x, 209 ≤ x → (x < 238 ∨ (260 ≤ x ∧ x < 268) ∨ (540 ≤ x ∧ x < 560)) → t x = t0 x := fun x q1 q2 => funext fun b => h2 x b (by omega) (by omega) (by unfold w_k_sE; omega)
    have hMt : w_k_MV t V := by
      refine w_k_MV_mk hM (fun _ _ => rfl) fr ?_
      rw [h2 199 26 (by omega) (by omega) (by unfold w_k_sE; omega), h2 199 27 (by omega) (by omega) (by unfold w_k_sE; omega), h2 199 28 (by omega) (by omega) (by unfold w_k_sE; omega), h2 199 29 (by omega) (by omega) (by unfold w_k_sE; omega), h2 199 13 (by omega) (by omega) (by unfold w_k_sE; omega), h2 199 43 (by omega) (by omega) (by unfold w_k_sE; omega), h2 199 49 (by omega) (by omega) (by unfold w_k_sE; omega), h2 199 50 (by omega) (by omega) (by unfold w_k_sE; omega)]
      exact hM.1
    obtain ⟨u, q1, q2, q3, q4⟩ := w_e182_151 (p := p) (L := L) hV hMt (by rw [g34, h34]) (fun j w_e1 w_e2 => by rw [(h3 j (by omega)).1, if_pos (by omega)]) (fun j w_e1 w_e2 => by rw [(h3 j (by omega)).2.1, if_pos (by omega)]) (fun j hj => by rw [g242]; exact (h0 j hj).2.2) (w_o_hol V) w_o_z t (Nat.le_refl _) rfl (fun _ _ _ => rfl) (fun j hj => by rw [g240, g241]; exact ⟨(h0 j hj).1, (h0 j hj).2.1⟩)
    rw [q1]
    refine ⟨u, rfl, ⟨?_, fun j hj => ?_, fun j _ w_e1 w_e2 i hi => ?_⟩, fun x b hx => ?_⟩
    · rw [q2 199 (by omega) (by omega) (by omega), g34, h34]; unfold w_k_holder w_o_hol; rw [if_neg hon]
    · obtain ⟨a1, a2, a3, a4⟩ := h3 j hj
      rw [q2 238 (by omega) (by omega) (by omega), q2 239 (by omega) (by omega) (by omega), q2 243 (by omega) (by omega) (by omega), q2 244 (by omega) (by omega) (by omega), a1, a2, a3, a4, q3 j hj, q4 j hj]
      unfold w_o_claim w_o_whom w_o_pays w_o_bears w_o_oath w_o_twice
      rw [if_neg hon, if_neg hon]
      by_cases g : 1 ≤ j ∧ j < w_o_hol V + 1
      · have g' : V 2 ≠ -1 ∧ 1 ≤ j ∧ j ≤ w_o_hol V := ⟨hon, by omega, by omega⟩
        simp only [if_pos g, if_pos g']
        exact ⟨trivial, trivial, trivial, trivial, trivial, trivial⟩
      · have g' : ¬ (V 2 ≠ -1 ∧ 1 ≤ j ∧ j ≤ w_o_hol V) := by omega
        simp only [if_neg g, if_neg g']
        exact ⟨trivial, trivial, trivial, trivial, rfl, rfl⟩
    · rw [q2 (246 + j) (by omega) (by omega) (by omega)]; exact h4 j w_e1 (by omega) i hi
    · have hx' := hx
      unfold w_k_sE at hx
      rw [q2 x (by omega) (by omega) (by omega)]
      exact h2 x b (by omega) (by omega) hx'
  | d + 1, k, t, h1, hk, h2, g34, g240, g241, g242, h3, h4 => by
    have hb := w_k_Vb hV
    have hh := w_o_hol_lt hV
    rw [f182_51L_eq]; unfold f182_51
    rw [g34, h34, if_neg (w_k_nlt (by omega) (by omega) (by omega))]
    have fr : ∀ x, 200 ≤ x → (x < 207 ∨ (209 ≤ x ∧ x < 238) ∨ (260 ≤ x ∧ x < 268) ∨ (540 ≤ x ∧ x < 560)) → t x = t0 x := fun x q1 q2 => funext fun b => h2 x b (by omega) (by omega) (by unfold w_k_sE; omega)
    have hMt : w_k_MV t V := by
      refine w_k_MV_mk hM (fun _ _ => rfl) (fun x w_e1 w_e2 => fr x (by omega) (by omega)) ?_
      rw [h2 199 26 (by omega) (by omega) (by unfold w_k_sE; omega), h2 199 27 (by omega) (by omega) (by unfold w_k_sE; omega), h2 199 28 (by omega) (by omega) (by unfold w_k_sE; omega), h2 199 29 (by omega) (by omega) (by unfold w_k_sE; omega), h2 199 13 (by omega) (by omega) (by unfold w_k_sE; omega), h2 199 43 (by omega) (by omega) (by unfold w_k_sE; omega), h2 199 49 (by omega) (by omega) (by unfold w_k_sE; omega), h2 199 50 (by omega) (by omega) (by unfold w_k_sE; omega)]
      exact hM.1
    obtain ⟨u1, p1, p2, p3⟩ := w_e181 HA hV hon (w_k_ML_cg H (fun x w_e1 w_e2 => fr x (by omega) (by omega))) hMt (by rw [g34, h34]) h1 (k := k) (by omega)
    rw [p1, w_k_bs]
    have hM1 : w_k_MV u1 V := by
      refine w_k_MV_mk hMt (fun _ _ => rfl) (fun x w_e1 w_e2 => funext fun b => p3 x b (by omega)) ?_
      rw [p3 199 26 (by omega), p3 199 27 (by omega), p3 199 28 (by omega), p3 199 29 (by omega), p3 199 13 (by omega), p3 199 43 (by omega), p3 199 49 (by omega), p3 199 50 (by omega)]
      exact hMt.1
    obtain ⟨u, q1, q2, q3, q4, q5, q6, q7⟩ := w_e182_61 HA hV hon (w_k_ML_cg (w_k_ML_cg H (fun x w_e1 w_e2 => fr x (by omega) (by omega))) (fun x w_e1 w_e2 => funext fun b => p3 x b (by omega))) hM1 (by rw [p3 199 34 (by omega), g34, h34]) h1 (k := k) (by omega) p2 8 0 u1 (by omega) (fun _ _ => rfl) (fun j hj => absurd hj (by omega))
    rw [show f182_61L u1 p (nI k) 0 = _ from q1]
    have row : ∀ x, (x = 240 ∨ x = 241 ∨ x = 242) → u x = t x := fun x hx => funext fun b => by rw [q7 x b (by omega), p3 x b (by omega)]
    refine w_e182_51 HA hV hon H hM h34 h0 d (k + 1) u (by omega) (by omega) (fun y b w_e1 w_e2 w_e3 => ?_) (by rw [q7 199 34 (by omega), p3 199 34 (by omega), g34]) (by rw [row 240 (by omega), g240]) (by rw [row 241 (by omega), g241]) (by rw [row 242 (by omega), g242]) (fun j hj => ?_) (fun j w_e1 w_e2 i hi => ?_)
    · have e3' := w_e3
      unfold w_k_sE at w_e3
      rw [q7 y b (by omega), p3 y b (by omega), h2 y b w_e1 w_e2 e3']
    · obtain ⟨a1, a2, a3, a4⟩ := h3 j hj
      by_cases e : j = k
      · subst e
        rw [q2, q3, q4, q5, if_pos (by omega), if_pos (by omega), if_pos (by omega), if_pos (by omega)]; exact ⟨rfl, rfl, rfl, rfl⟩
      · rw [q7 238 j (by omega), q7 239 j (by omega), q7 243 j (by omega), q7 244 j (by omega), p3 238 j (by omega), p3 239 j (by omega), p3 243 j (by omega), p3 244 j (by omega), a1, a2, a3, a4]
        by_cases g : 1 ≤ j ∧ j < k
        · rw [if_pos g, if_pos g, if_pos g, if_pos g, if_pos (by omega), if_pos (by omega), if_pos (by omega), if_pos (by omega)]; exact ⟨rfl, rfl, rfl, rfl⟩
        · rw [if_neg g, if_neg g, if_neg g, if_neg g, if_neg (by omega), if_neg (by omega), if_neg (by omega), if_neg (by omega)]; exact ⟨rfl, rfl, rfl, rfl⟩
    · by_cases e : j = k
      · subst e; exact q6 i hi
      · rw [q7 (246 + j) i (by omega), p3 (246 + j) i (by omega)]; exact h4 j w_e1 (by omega) i hi
theorem w_e182_4 (HA : w_k_HA TR) {t0 : g_S} (hV : w_k_Vok n V) (H : w_k_ML TR t0 p L) (hM : w_k_MV t0 V) (h34 : t0 199 34 = w_k_holder V) :
    ∀ (d i : Nat) (t : g_S), i + d = 13 → (∀ x, ¬ (238 ≤ x ∧ x ≤ 244) → t x = t0 x) → (∀ k, k < i → t 238 k = 0 ∧ t 239 k = -1 ∧ t 240 k = 0 ∧ t 241 k = 0 ∧ t 242 k = 0 ∧ t 243 k = 0 ∧ t 244 k = 0) →
      ∃ u, f182_4L t p (nI i) = some u ∧ w_o_ME u V L ∧ ∀ x b, ¬ w_k_sE x b → u x b = t0 x b
  | 0, i, t, e, h1, h2 => by
    have hh := w_o_hol_lt hV
    have e' : i = 13 := by omega
    subst e'
    rw [f182_4L_eq]; unfold f182_4 f182_44
    have e199 : t 199 = t0 199 := h1 199 (by omega)
    rw [if_neg (by decide), e199, hM.1.2.2.1]
    by_cases hon : V 2 = -1
    · rw [if_pos hon]
      refine ⟨t, rfl, ⟨by rw [e199]; exact h34, fun k hk => ?_, fun k h => absurd hon h⟩, fun x b hx => by unfold w_k_sE at hx; rw [h1 x (by omega)]⟩
      obtain ⟨a1, a2, a3, a4, a5, a6, a7⟩ := h2 k hk
      rw [a1, a2, a3, a5, a6, a7]
      have hno : ¬ (V 2 ≠ -1 ∧ 1 ≤ k ∧ k ≤ w_o_hol V) := fun h => h.1 hon
      unfold w_o_claim w_o_whom w_o_pays w_o_bears w_o_oath w_o_twice
      simp only [if_neg hno, if_pos hon]
      exact ⟨trivial, trivial, trivial, trivial, rfl, rfl⟩
    · rw [if_neg hon]
      have h34' : t 199 34 = nI (w_o_hol V) := by rw [e199, h34]; unfold w_k_holder w_o_hol; rw [if_neg hon]
      have hMt : w_k_MV t V := w_k_MV_mk hM (fun _ _ => rfl) (fun x w_e1 w_e2 => h1 x (by omega)) (by rw [e199]; exact hM.1)
      obtain ⟨u, q1, q2, q3⟩ := w_e182_51 HA hV hon (w_k_ML_cg H (fun x w_e1 w_e2 => h1 x (by omega))) hMt h34' (fun k hk => ⟨(h2 k hk).2.2.1, (h2 k hk).2.2.2.1, (h2 k hk).2.2.2.2.1⟩) (w_o_hol V) 1 t (by omega) (by omega) (fun _ _ _ _ _ => rfl) rfl rfl rfl rfl
        (fun j hj => by rw [if_neg (by omega), if_neg (by omega), if_neg (by omega), if_neg (by omega)]; exact ⟨(h2 j hj).1, (h2 j hj).2.1, (h2 j hj).2.2.2.2.2.1, (h2 j hj).2.2.2.2.2.2⟩) (fun j w_e1 w_e2 => absurd w_e2 (by omega))
      rw [show f182_51L t p 1 = some u from q1]
      exact ⟨u, rfl, q2, fun x b hx => by rw [q3 x b hx]; unfold w_k_sE at hx; rw [h1 x (by omega)]⟩
  | d + 1, i, t, e, h1, h2 => by
    rw [f182_4L_eq]; unfold f182_4
    rw [if_pos (show nI i < 13 from (w_k_lt (b := 13) (by omega) (by omega)).2 (by omega)), if_pos (w_k_hin (by omega)), w_k_nat (by omega), w_k_s1]
    refine w_e182_4 HA hV H hM h34 d (i + 1) _ (by omega) (fun x hx => ?_) (fun k hk => ?_)
    · dsimp only; simp (disch := omega) only [w_k_wn]; exact h1 x hx
    · dsimp only
      by_cases ek : k = i
      · subst ek
        simp (disch := omega) only [w_k_wq, w_k_wv]; exact ⟨trivial, trivial, trivial, trivial, trivial, trivial, trivial⟩
      · simp (disch := omega) only [w_k_wq]; exact h2 k (by omega)
theorem w_e182 (HA : w_k_HA TR) (hV : w_k_Vok n V) (H : w_k_ML TR s p L) (hM : w_k_MV s V) : ∃ u, f182 s p = some u ∧ w_o_ME u V L ∧ ∀ x b, ¬ w_k_sE x b → u x b = s x b := by
  unfold f182
  obtain ⟨t, p1, p2, p3⟩ := w_e179 hV hM
  rw [p1, w_k_bs]
  have hMt : w_k_MV t V := by
    refine w_k_MV_mk hM (fun _ _ => rfl) (fun x w_e1 w_e2 => funext fun b => p3 x b (by omega)) ?_
    rw [p3 199 26 (by omega), p3 199 27 (by omega), p3 199 28 (by omega), p3 199 29 (by omega), p3 199 13 (by omega), p3 199 43 (by omega), p3 199 49 (by omega), p3 199 50 (by omega)]
    exact hM.1
  obtain ⟨u, q1, q2, q3⟩ := w_e182_4 HA hV (w_k_ML_cg H (fun x w_e1 w_e2 => funext fun b => p3 x b (by omega))) hMt p2 13 0 t (by omega) (fun _ _ => rfl) (fun k hk => absurd hk (by omega))
  exact ⟨u, q1, q2, fun x b hx => by rw [q3 x b hx]; unfold w_k_sE at hx; rw [p3 x b (by omega)]⟩
end EM3
