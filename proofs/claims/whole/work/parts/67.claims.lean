/-! THE END, by a chain and a law -/
def w_o_hol (V : w_k_V) : Nat := w_k_hol V (w_k_hc V)
def w_o_nm (V : w_k_V) (L : w_q_L) (k : Nat) : Nat → Int32 := fun i =>
  if i < 3 then V (17 + 12 * k + i) else if i = 3 then (if V (12 + 12 * k) < V 3 then 1 else 0) else if i = 4 then (if k < w_o_hol V ∧ V (14 + 12 * k) = 0 then 1 else 0)
  else if i = 5 then (if w_q_lets L (V (10 + 12 * k)) (V (13 + 12 * k)) = true then V (13 + 12 * k) else 0) else if i = 6 then V 1 else V 3 - V (11 + 12 * k)
def w_o_ans (V : w_k_V) (L : w_q_L) (k : Nat) : Bool := w_q_holds L 0 (V (10 + 12 * k)) (V 2) (w_o_nm V L k)
def w_o_sw (V : w_k_V) (L : w_q_L) (k : Nat) : Bool := w_q_holds L 1 (V (10 + 12 * k)) (V 2) (w_o_nm V L k)
def w_o_must1 (V : w_k_V) (L : w_q_L) (k : Nat) : Bool := !w_o_ans V L k && (decide (V (20 + 12 * k) = 0) && w_o_sw V L k)
def w_o_claim1 (V : w_k_V) (L : w_q_L) (k : Nat) : Int32 := if (w_o_ans V L k || w_o_must1 V L k) = true then w_q_owed L (V (10 + 12 * k)) (w_o_nm V L k) else 0
def w_o_whom1 (V : w_k_V) (k : Nat) : Int32 := if 1 < k ∧ V (2 + 12 * k) = 0 then 0 else nI (k - 1)
abbrev w_o_PG : Type := (Nat → Int32) × (Nat → Int32)
def w_o_up1 (V : w_k_V) (L : w_q_L) (k : Nat) (x : w_o_PG) : w_o_PG :=
  (upd x.1 k (g_min (w_o_claim1 V L k) (V (15 + 12 * k) + x.2 k)),
   if 0 < w_o_whom1 V k then upd x.2 (w_o_whom1 V k).toNatClampNeg (x.2 (w_o_whom1 V k).toNatClampNeg + g_min (w_o_claim1 V L k) (V (15 + 12 * k) + x.2 k)) else x.2)
def w_o_up (V : w_k_V) (L : w_q_L) : Nat → w_o_PG → w_o_PG
  | 0, x => x
  | k + 1, x => w_o_up V L k (w_o_up1 V L (k + 1) x)
def w_o_own (V : w_k_V) : Nat → (Nat → Int32) × Int32 → (Nat → Int32) × Int32
  | 0, x => x
  | k + 1, x => if w_o_whom1 V (k + 1) = 0 then (upd (w_o_own V k x).1 (k + 1) (g_min ((w_o_own V k x).1 (k + 1)) (V 1 - (w_o_own V k x).2)), (w_o_own V k x).2 + g_min ((w_o_own V k x).1 (k + 1)) (V 1 - (w_o_own V k x).2)) else w_o_own V k x
def w_o_z : w_o_PG := (fun _ => 0, fun _ => 0)
def w_o_PG1 (V : w_k_V) (L : w_q_L) : w_o_PG := w_o_up V L (w_o_hol V) w_o_z
def w_o_PO (V : w_k_V) (L : w_q_L) : (Nat → Int32) × Int32 := w_o_own V (w_o_hol V) ((w_o_PG1 V L).1, 0)
def w_o_in (V : w_k_V) (k : Nat) : Prop := V 2 ≠ -1 ∧ 1 ≤ k ∧ k ≤ w_o_hol V
theorem w_o_in_def (V : w_k_V) (k : Nat) : w_o_in V k ↔ V 2 ≠ -1 ∧ 1 ≤ k ∧ k ≤ w_o_hol V := Iff.rfl
def w_o_claim (V : w_k_V) (L : w_q_L) (k : Nat) : Int32 := if V 2 ≠ -1 ∧ 1 ≤ k ∧ k ≤ w_o_hol V then w_o_claim1 V L k else 0
def w_o_whom (V : w_k_V) (k : Nat) : Int32 := if V 2 ≠ -1 ∧ 1 ≤ k ∧ k ≤ w_o_hol V then w_o_whom1 V k else -1
def w_o_must (V : w_k_V) (L : w_q_L) (k : Nat) : Bool := if V 2 ≠ -1 ∧ 1 ≤ k ∧ k ≤ w_o_hol V then w_o_must1 V L k else false
def w_o_pays (V : w_k_V) (L : w_q_L) (k : Nat) : Int32 := if V 2 = -1 then 0 else (w_o_PO V L).1 k
def w_o_bears (V : w_k_V) (L : w_q_L) (k : Nat) : Int32 := if V 2 = -1 then 0 else if k = 0 then V 1 - (w_o_PO V L).2 else if k ≤ w_o_hol V then (w_o_PO V L).1 k - (w_o_PG1 V L).2 k else 0
theorem w_k_min {a b : Int32} : (if a < b then a else b) = g_min a b := by
  unfold g_min
  by_cases h : a < b
  · rw [if_pos h, if_neg (fun g => by rw [Int32.lt_iff_toInt_lt] at h g; omega)]
  · rw [if_neg h]
    by_cases g : b < a
    · rw [if_pos g]
    · rw [if_neg g]
      rw [Int32.lt_iff_toInt_lt] at h g
      exact (Int32.toInt_inj.1 (by omega))
theorem w_o_hol_lt {n : Nat} {V : w_k_V} (h : w_k_Vok n V) : w_o_hol V < w_k_hc V ∧ w_o_hol V < 13 := by
  have := w_k_hol_le V (w_k_hc V)
  have := h.1.2
  unfold w_o_hol; omega
theorem w_o_whom_n {V : w_k_V} {k : Nat} (h : 1 ≤ k) : ∃ j, j < k ∧ w_o_whom1 V k = nI j := by
  unfold w_o_whom1; split
  · exact ⟨0, by omega, rfl⟩
  · exact ⟨k - 1, by omega, rfl⟩
theorem w_q_step_cg {n m : Nat → Int32} (h : ∀ i, i < 8 → n i = m i) {x : Int32} (hx : ¬ x < 0) (st : List Int32) : w_q_step n st x = w_q_step m st x := by
  unfold w_q_step
  by_cases h8 : x < 8
  · obtain ⟨c, hc, rfl⟩ := w_k_of hx
    have hc8 : c < 8 := (w_k_lt (b := 8) (by omega) (by omega)).1 h8
    rw [if_pos h8, if_pos h8, w_k_nat (by omega), h c hc8]
  · rw [if_neg h8, if_neg h8]
theorem w_q_run_cg {n m : Nat → Int32} (h : ∀ i, i < 8 → n i = m i) : ∀ (xs : List Int32) (st : List Int32), (∀ x, x ∈ xs → ¬ x < 0) → xs.foldl (w_q_step n) st = xs.foldl (w_q_step m) st
  | [], _, _ => rfl
  | x :: xs, st, hx => by
    rw [List.foldl_cons, List.foldl_cons, w_q_step_cg h (hx x (List.mem_cons_self ..)), w_q_run_cg h xs _ (fun y hy => hx y (List.mem_cons_of_mem _ hy))]
def w_q_ok (L : w_q_L) : Prop := ∀ c, c ∈ L.1 → ∀ x, x ∈ c.2.2.2 → ¬ x < 0
theorem w_q_work_cg {n m : Nat → Int32} (h : ∀ i, i < 8 → n i = m i) {xs : List Int32} (hx : ∀ x, x ∈ xs → ¬ x < 0) : w_q_work n xs = w_q_work m xs := by
  unfold w_q_work w_q_run; rw [w_q_run_cg h xs [] hx]
theorem w_q_any_cg {A : Type} {f g : A → Bool} : ∀ {l : List A}, (∀ a, a ∈ l → f a = g a) → l.any f = l.any g
  | [], _ => rfl
  | a :: l, h => by rw [List.any_cons, List.any_cons, h a (List.mem_cons_self ..), w_q_any_cg (fun b hb => h b (List.mem_cons_of_mem _ hb))]
theorem w_q_holds_cg {n m : Nat → Int32} (h : ∀ i, i < 8 → n i = m i) {L : w_q_L} (hL : w_q_ok L) {t k a : Int32} : w_q_holds L t k a n = w_q_holds L t k a m := by
  unfold w_q_holds
  refine w_q_any_cg (fun c hc => ?_)
  unfold w_q_hold1; rw [w_q_work_cg h (hL c hc)]
theorem w_q_owes_cg {n m : Nat → Int32} (h : ∀ i, i < 8 → n i = m i) {k : Int32} : ∀ {cs : List w_q_C}, (∀ c, c ∈ cs → ∀ x, x ∈ c.2.2.2 → ¬ x < 0) → w_q_owes cs k n = w_q_owes cs k m
  | [], _ => h 6 (by omega)
  | c :: cs, hc => by
    unfold w_q_owes
    rw [w_q_work_cg h (hc c (List.mem_cons_self ..)), w_q_owes_cg h (fun d hd => hc d (List.mem_cons_of_mem _ hd))]
theorem w_q_owed_cg {n m : Nat → Int32} (h : ∀ i, i < 8 → n i = m i) {L : w_q_L} (hL : w_q_ok L) {k : Int32} : w_q_owed L k n = w_q_owed L k m := by
  unfold w_q_owed; exact w_q_owes_cg h (fun c hc => hL c (List.mem_reverse.1 hc))
theorem w_k_LRok {s : g_S} {l : Nat} {L : w_q_L} (H : w_k_LR s l L) : w_q_ok L := by
  intro c hc x hx
  obtain ⟨i, hi⟩ := List.getElem?_of_mem hc
  obtain ⟨_, _, _, a, _, _, _, g⟩ := H.2.2.2 i c hi
  obtain ⟨j, hj⟩ := List.getElem?_of_mem hx
  exact (g j x hj).1
/-! THE END of the class -/
section EC
variable {s : g_S} {c l p : Nat} {V : w_k_V} {L : w_q_L} {n : Nat}
theorem w_e3 {k h : Nat} (H : w_k_CV s c V) (hb : w_k_hc V ≤ 13) (hk : k < w_k_hc V) (hh : h < 13) : f3 s c (nI k) (nI h) = some (if k < h ∧ 1 ≤ k ∧ V (14 + 12 * k) = 0 then 1 else 0) := by
  unfold f3
  by_cases h1 : k < h
  · rw [if_pos ((w_k_lt (by omega) (by omega)).2 h1), if_pos (w_k_hin (by omega)), w_k_nat (by omega), (H.2.1 k hk).1 4 (by omega)]
    by_cases h0 : k = 0
    · rw [if_pos h0, if_neg (by decide), if_neg (by omega)]
    · rw [if_neg h0, show 10 + 12 * k + 4 = 14 + 12 * k by omega]
      by_cases hv : V (14 + 12 * k) = 0
      · rw [if_pos hv, if_pos ⟨h1, by omega, hv⟩]
      · rw [if_neg hv, if_neg (fun h => hv h.2.2)]
  · rw [if_neg (w_k_nlt (by omega) (by omega) h1), if_neg (fun h => h1 h.1)]
theorem w_e26 {x h i : Nat} (H : w_k_CH s x h V) (hi : i < 4) : f26 s x (nI i) = some (V (17 + 12 * h + i)) := by
  obtain ⟨_, _, _, m, hm, g4, g5⟩ := H
  unfold f26
  rw [g4, w_k_bit0 m hm i hi, g5 i hi]
theorem w_e4 {k : Nat} (hV : w_k_Vok n V) (H : w_k_CV s c V) (HL : w_k_LR s l L) (hk1 : 1 ≤ k) (hk : k ≤ w_o_hol V) (hp : ¬ (c ≤ p ∧ p < c + 27)) (hp2 : ¬ (l ≤ p ∧ p < l + 7)) (hp3 : p ≠ l + 7) :
    ∃ u, f4 s c (nI k) (nI (w_o_hol V)) l p = some u ∧ (∀ i, i < 8 → u p i = w_o_nm V L k i) ∧ ∀ x, x ≠ p → u x = s x := by
  have hb := w_k_Vb hV
  have hh := w_o_hol_lt hV
  have hCH := H.2.1 k (by omega)
  have hA : ∀ i, i < 5 → s (c + 6 + k) i = V (10 + 12 * k + i) := fun i hi => by rw [hCH.1 i hi, if_neg (by omega)]
  have hf : ∀ i, i < 3 → ∀ t : g_S, (∀ x, x ≠ p → t x = s x) → ∃ v, f26 t (c + 6 + k) (nI i) = some v ∧ (if v = 0 then (0 : Int32) else 1) = V (17 + 12 * k + i) := by
    intro i hi t ht
    refine ⟨_, w_e26 (w_k_CH_cg (ht _ (by omega)) (fun _ _ _ => rfl) hCH) (by omega), ?_⟩
    rcases w_k_isb (hV.2.2.2.2.2.2.2.2.1 k i (by omega) (by omega)) with e | e
    · rw [e]; rfl
    · rw [e]; rfl
  unfold f4
  rw [if_pos (w_k_hin (by omega)), w_k_nat (by omega)]
  have turn : ∀ i, i < 3 → ∀ t : g_S, (∀ x, x ≠ p → t x = s x) → f4_7L t c (nI k) (nI (w_o_hol V)) l p (c + 6 + k) (nI i) = f4_7L (g_w t p i (V (17 + 12 * k + i))) c (nI k) (nI (w_o_hol V)) l p (c + 6 + k) (nI (i + 1)) := by
    intro i hi t ht
    obtain ⟨v, w_e1, w_e2⟩ := hf i hi t ht
    rw [f4_7L_eq]; unfold f4_7 f4_19
    rw [if_pos (show nI i < 3 from (w_k_lt (b := 3) (by omega) (by omega)).2 hi), w_e1, w_k_bs, if_pos ((w_k_inI (by omega)).2 (by omega)), if_pos ((w_k_inI (by omega)).2 (by omega)), w_k_nat (by omega), w_k_let, w_k_let, w_k_s1, ← w_e2]
    by_cases hv : v = 0
    · rw [if_pos hv, if_pos hv]; rfl
    · rw [if_neg hv, if_neg hv]; rfl
  rw [show f4_7L s c (nI k) (nI (w_o_hol V)) l p (c + 6 + k) 0 = f4_7L s c (nI k) (nI (w_o_hol V)) l p (c + 6 + k) (nI 0) from rfl,
    turn 0 (by omega) s (fun _ _ => rfl), turn 1 (by omega) _ (fun x hx => by rw [w_k_wn hx]), turn 2 (by omega) _ (fun x hx => by rw [w_k_wn hx, w_k_wn hx]), f4_7L_eq]
  unfold f4_7
  rw [if_neg (by decide)]
  generalize ht : g_w (g_w (g_w s p 0 (V (17 + 12 * k + 0))) p (0 + 1) (V (17 + 12 * k + (0 + 1)))) p (1 + 1) (V (17 + 12 * k + (1 + 1))) = t
  have tf : ∀ x, x ≠ p → t x = s x := fun x hx => by rw [← ht]; simp (disch := omega) only [w_k_wn]
  have t0 : ∀ i, i < 3 → t p i = V (17 + 12 * k + i) := fun i hi => by
    rw [← ht]
    match i, hi with
    | 0, _ => simp (disch := omega) only [w_k_wq, w_k_wv]
    | 1, _ => simp (disch := omega) only [w_k_wq, w_k_wv]
    | 2, _ => simp (disch := omega) only [w_k_wq, w_k_wv]
  have key : ∃ u, f4_22 t c (nI k) (nI (w_o_hol V)) l p (c + 6 + k) = some u ∧ (∀ i, i < 8 → u p i = w_o_nm V L k i) ∧ ∀ x, x ≠ p → u x = s x := by
    unfold f4_22
    have h57 : ∀ (w : Int32) (u : g_S), (∀ x, x ≠ p → u x = s x) → w = w_o_nm V L k 5 → (∀ i, i < 5 → u p i = w_o_nm V L k i) → ∃ z, f4_57 u c (nI k) (nI (w_o_hol V)) l p (c + 6 + k) w = some z ∧ (∀ i, i < 8 → z p i = w_o_nm V L k i) ∧ ∀ x, x ≠ p → z x = s x := by
      intro w u hu hw h5
      unfold f4_57
      simp (disch := omega) only [w_k_let, w_k_wn, hu c (by omega), hu (c + 6 + k) (by omega), H.1.2.1, H.1.2.2.2.1, hA 1 (by omega)]
      refine ⟨_, rfl, fun i hi => ?_, fun x hx => ?_⟩
      · by_cases w_e7 : i = 7
        · subst w_e7; rw [w_k_wv]; unfold w_o_nm; rw [show 10 + 12 * k + 1 = 11 + 12 * k by omega]; rfl
        · rw [w_k_wq (by omega)]
          by_cases e6 : i = 6
          · subst e6; rw [w_k_wv]; rfl
          · rw [w_k_wq (by omega)]
            by_cases w_e5 : i = 5
            · subst w_e5; rw [w_k_wv, hw]
            · rw [w_k_wq (by omega)]; exact h5 i (by omega)
      · simp (disch := omega) only [w_k_wn]; exact hu x hx
    have h43 : ∀ (w : Int32) (u : g_S), (∀ x, x ≠ p → u x = s x) → w = w_o_nm V L k 4 → (∀ i, i < 4 → u p i = w_o_nm V L k i) → ∃ z, f4_43 u c (nI k) (nI (w_o_hol V)) l p (c + 6 + k) w = some z ∧ (∀ i, i < 8 → z p i = w_o_nm V L k i) ∧ ∀ x, x ≠ p → z x = s x := by
      intro w u hu hw h5
      unfold f4_43
      have hu2 : ∀ x, x ≠ p → g_w u p 4 w x = s x := fun x hx => by rw [w_k_wn hx, hu x hx]
      rw [w_k_let, hu2 (c + 6 + k) (by omega), hA 0 (by omega), hA 3 (by omega), w_e37 (w_k_LR_cg (fun x h1 h2 => hu2 x (by omega)) HL), w_k_bs]
      have h5' : ∀ i, i < 5 → g_w u p 4 w p i = w_o_nm V L k i := fun i hi => by
        by_cases e : i = 4
        · subst e; rw [w_k_wv, hw]
        · rw [w_k_wq (by omega)]; exact h5 i (by omega)
      have en5 : w_o_nm V L k 5 = if w_q_lets L (V (10 + 12 * k)) (V (13 + 12 * k)) = true then V (13 + 12 * k) else 0 := rfl
      rw [show 10 + 12 * k + 0 = 10 + 12 * k from rfl, show 10 + 12 * k + 3 = 13 + 12 * k by omega]
      cases hl : w_q_lets L (V (10 + 12 * k)) (V (13 + 12 * k)) with
      | false =>
        rw [if_pos (w_q_b0.2 rfl)]
        exact h57 _ _ hu2 (by rw [en5, hl]; rfl) h5'
      | true =>
        rw [if_neg (by decide)]
        exact h57 _ _ hu2 (by rw [en5, hl, if_pos rfl]) h5'
    have h32 : ∀ (w : Int32), w = w_o_nm V L k 3 → ∃ z, f4_32 t c (nI k) (nI (w_o_hol V)) l p (c + 6 + k) w = some z ∧ (∀ i, i < 8 → z p i = w_o_nm V L k i) ∧ ∀ x, x ≠ p → z x = s x := by
      intro w hw
      unfold f4_32
      have hu2 : ∀ x, x ≠ p → g_w t p 3 w x = s x := fun x hx => by rw [w_k_wn hx, tf x hx]
      have h4' : ∀ i, i < 4 → g_w t p 3 w p i = w_o_nm V L k i := fun i hi => by
        by_cases e : i = 3
        · subst e; rw [w_k_wv, hw]
        · rw [w_k_wq (by omega), t0 i (by omega)]; unfold w_o_nm; rw [if_pos (by omega)]
      have en4 : w_o_nm V L k 4 = if k < w_o_hol V ∧ V (14 + 12 * k) = 0 then 1 else 0 := rfl
      rw [w_k_let, w_e3 (w_k_CV_cg H hb.1 hb.2.1 (fun x h1 h2 => hu2 x (by omega))) hb.1 (by omega) hh.2, w_k_bs]
      by_cases h : k < w_o_hol V ∧ V (14 + 12 * k) = 0
      · rw [if_pos (show k < w_o_hol V ∧ 1 ≤ k ∧ V (14 + 12 * k) = 0 from ⟨h.1, hk1, h.2⟩), if_neg w_k_01]
        exact h43 _ _ hu2 (by rw [en4, if_pos h]) h4'
      · rw [if_neg (show ¬ (k < w_o_hol V ∧ 1 ≤ k ∧ V (14 + 12 * k) = 0) from fun g => h ⟨g.1, g.2.2⟩), if_pos rfl]
        exact h43 _ _ hu2 (by rw [en4, if_neg h]) h4'
    have en3 : w_o_nm V L k 3 = if V (12 + 12 * k) < V 3 then 1 else 0 := rfl
    rw [tf (c + 6 + k) (by omega), tf c (by omega), hA 2 (by omega), H.1.2.2.2.1, show 10 + 12 * k + 2 = 12 + 12 * k by omega]
    by_cases h : V (12 + 12 * k) < V 3
    · rw [if_pos h]; exact h32 1 (by rw [en3, if_pos h])
    · rw [if_neg h]; exact h32 0 (by rw [en3, if_neg h])
  obtain ⟨u, q1, q2⟩ := key
  rw [q1]
  exact ⟨u, rfl, q2⟩
end EC
section EC2
variable {s : g_S} {c l : Nat} {V : w_k_V} {L : w_q_L} {n : Nat}
theorem w_e11_2 : ∀ d i t, i + d = 13 → (∀ x, ¬ (78 ≤ x ∧ x ≤ 83) → t x = s x) → (∀ k, k < i → t 78 k = 0 ∧ t 79 k = -1 ∧ t 80 k = 0 ∧ t 81 k = 0 ∧ t 82 k = 0 ∧ t 83 k = 0) →
    ∃ u, f11_2L t (nI i) = some u ∧ (∀ x, ¬ (78 ≤ x ∧ x ≤ 83) → u x = s x) ∧ (∀ k, k < 13 → u 78 k = 0 ∧ u 79 k = -1 ∧ u 80 k = 0 ∧ u 81 k = 0 ∧ u 82 k = 0 ∧ u 83 k = 0)
  | 0, i, t, e, h1, h2 => by
    have e' : i = 13 := by omega
    subst e'
    rw [f11_2L_eq]; unfold f11_2
    rw [if_neg (by decide)]
    exact ⟨t, rfl, h1, h2⟩
  | d + 1, i, t, e, h1, h2 => by
    rw [f11_2L_eq]; unfold f11_2
    rw [if_pos (show nI i < 13 from (w_k_lt (b := 13) (by omega) (by omega)).2 (by omega)), if_pos (w_k_hin (by omega)), w_k_nat (by omega), w_k_s1]
    refine w_e11_2 d (i + 1) _ (by omega) (fun x hx => ?_) (fun k hk => ?_)
    · dsimp only; simp (disch := omega) only [w_k_wn]; exact h1 x hx
    · dsimp only
      by_cases ek : k = i
      · subst ek
        simp (disch := omega) only [w_k_wq, w_k_wv]; exact ⟨trivial, trivial, trivial, trivial, trivial, trivial⟩
      · simp (disch := omega) only [w_k_wq]; exact h2 k (by omega)
theorem w_e11 : ∃ u, f11 s = some u ∧ (∀ x, ¬ (78 ≤ x ∧ x ≤ 83) → u x = s x) ∧ (∀ k, k < 13 → u 78 k = 0 ∧ u 79 k = -1 ∧ u 80 k = 0 ∧ u 81 k = 0 ∧ u 82 k = 0 ∧ u 83 k = 0) := by
  unfold f11
  exact w_e11_2 13 0 s (by omega) (fun _ _ => rfl) (fun k hk => absurd hk (by omega))
theorem w_e12_81 {t : g_S} {k : Nat} {w : Int32} (hk : k < 13) (a b : Nat) (p : Int32) : f12_81 t p a b (nI k) w = some (g_w t 79 k w) := by
  unfold f12_81; rw [if_pos (w_k_hin hk), w_k_nat (by omega)]; rfl
theorem w_e12_64 {t : g_S} {k : Nat} {w : Int32} (hV : w_k_Vok n V) (H : w_k_CV t c V) (hc : c = 22 ∨ c = 49) (h7 : t 77 7 = nI (w_o_hol V)) (hk1 : 1 ≤ k) (hk : k ≤ w_o_hol V) :
    f12_64 t (nI k) c l (nI k) w = some (g_w (g_w t 78 k w) 79 k (w_o_whom1 V k)) := by
  have hb := w_k_Vb hV
  have hh := w_o_hol_lt hV
  obtain ⟨j, rfl⟩ : ∃ j, k = j + 1 := ⟨k - 1, by omega⟩
  unfold f12_64
  rw [if_pos (w_k_hin (by omega)), w_k_nat (by omega), w_k_let, w_k_m1, w_k_wn (by omega), h7, w_e3 (w_k_CV_cg H hb.1 hb.2.1 (fun x h1 h2 => w_k_wn (by omega))) hb.1 (by omega) hh.2, w_k_bs]
  unfold w_o_whom1
  by_cases h : 1 < j + 1 ∧ V (2 + 12 * (j + 1)) = 0
  · rw [if_pos (show j < w_o_hol V ∧ 1 ≤ j ∧ V (14 + 12 * j) = 0 from ⟨by omega, by omega, by rw [show 14 + 12 * j = 2 + 12 * (j + 1) by omega]; exact h.2⟩), if_neg w_k_01, if_pos h, w_e12_81 (by omega)]
  · rw [if_neg (show ¬ (j < w_o_hol V ∧ 1 ≤ j ∧ V (14 + 12 * j) = 0) from fun g => h ⟨by omega, by rw [show 2 + 12 * (j + 1) = 14 + 12 * j by omega]; exact g.2.2⟩), if_pos rfl, if_neg h, w_e12_81 (by omega)]; rfl
theorem w_e12 {t : g_S} {k : Nat} (hV : w_k_Vok n V) (H : w_k_CV t c V) (HL : w_k_LR t l L) (hc : c = 22 ∨ c = 49) (hl : l = 3 ∨ 86 ≤ l) (h7 : t 77 7 = nI (w_o_hol V)) (hk1 : 1 ≤ k) (hk : k ≤ w_o_hol V) :
    ∃ u, f12 t (nI k) c l = some u ∧ (∀ j, u 78 j = if j = k then w_o_claim1 V L k else t 78 j) ∧ (∀ j, u 79 j = if j = k then w_o_whom1 V k else t 79 j) ∧ (∀ j, u 82 j = if j = k then w_q_b (w_o_must1 V L k) else t 82 j) ∧
      ∀ x, x ≠ 78 → x ≠ 79 → x ≠ 82 → x ≠ 84 → x ≠ l + 7 → u x = t x := by
  have hb := w_k_Vb hV
  have hh := w_o_hol_lt hV
  have hok := w_k_LRok HL
  have hA : ∀ i, i < 5 → t (c + 6 + k) i = V (10 + 12 * k + i) := fun i hi => by rw [(H.2.1 k (by omega)).1 i hi, if_neg (by omega)]
  obtain ⟨u1, p1, p2, p3⟩ := w_e4 (p := 84) hV H HL hk1 hk (by omega) (by omega) (by omega)
  have cv : ∀ u : g_S, (∀ x, x ≠ 82 → x ≠ 84 → x ≠ l + 7 → u x = t x) → w_k_CV u c V := fun u hu => w_k_CV_cg H hb.1 hb.2.1 (fun x h1 h2 => hu x (by omega) (by omega) (by omega))
  have lr : ∀ u : g_S, (∀ x, x ≠ 82 → x ≠ 84 → x ≠ l + 7 → u x = t x) → w_k_LR u l L := fun u hu => w_k_LR_cg (fun x h1 h2 => hu x (by omega) (by omega) (by omega)) HL
  have f1 : ∀ x, x ≠ 82 → x ≠ 84 → x ≠ l + 7 → u1 x = t x := fun x _ h _ => p3 x h
  obtain ⟨u2, q1, q2⟩ := w_e34 (t := 0) (k := V (10 + 12 * k)) (h := V 2) (lr u1 f1) (p := 84) (by omega)
  have eans : w_q_holds L 0 (V (10 + 12 * k)) (V 2) (u1 84) = w_o_ans V L k := w_q_holds_cg p2 hok
  have f2 : ∀ x, x ≠ 82 → x ≠ 84 → x ≠ l + 7 → u2 x = t x := fun x h1 h2 h3 => by rw [q2 x h3, f1 x h1 h2 h3]
  -- the rest, when it is known whether it must swear
  have rest : ∀ (u : g_S) (a m : Bool), (∀ x, x ≠ 82 → x ≠ 84 → x ≠ l + 7 → u x = t x) → (∀ i, i < 8 → u 84 i = w_o_nm V L k i) → u 82 = t 82 → a = w_o_ans V L k → m = w_o_must1 V L k →
      ∃ z, f12_45 u (nI k) c l (c + 6 + k) (w_q_b a) (nI k) (w_q_b m) = some z ∧ (∀ j, z 78 j = if j = k then w_o_claim1 V L k else t 78 j) ∧ (∀ j, z 79 j = if j = k then w_o_whom1 V k else t 79 j) ∧ (∀ j, z 82 j = if j = k then w_q_b (w_o_must1 V L k) else t 82 j) ∧
      ∀ x, x ≠ 78 → x ≠ 79 → x ≠ 82 → x ≠ 84 → x ≠ l + 7 → z x = t x := by
    intro u a m hu hnm h82 ha hm
    unfold f12_45
    rw [if_pos (w_k_hin (by omega)), if_pos w_k_isq, w_k_nat (by omega), w_k_let, if_pos (w_k_hin (by omega)), w_k_wv]
    have hu3 : ∀ x, x ≠ 82 → x ≠ 84 → x ≠ l + 7 → g_w u 82 k (w_q_b m) x = t x := fun x h1 h2 h3 => by rw [w_k_wn h1, hu x h1 h2 h3]
    have fin : ∀ (z : g_S) (w : Int32), (∀ x, x ≠ l + 7 → z x = g_w u 82 k (w_q_b m) x) → w = w_o_claim1 V L k → ∃ y, f12_64 z (nI k) c l (nI k) w = some y ∧ (∀ j, y 78 j = if j = k then w_o_claim1 V L k else t 78 j) ∧ (∀ j, y 79 j = if j = k then w_o_whom1 V k else t 79 j) ∧ (∀ j, y 82 j = if j = k then w_q_b (w_o_must1 V L k) else t 82 j) ∧
      ∀ x, x ≠ 78 → x ≠ 79 → x ≠ 82 → x ≠ 84 → x ≠ l + 7 → y x = t x := by
      intro z w hz hw
      have hz3 : ∀ x, x ≠ 82 → x ≠ 84 → x ≠ l + 7 → z x = t x := fun x h1 h2 h3 => by rw [hz x h3, hu3 x h1 h2 h3]
      rw [w_e12_64 hV (cv z hz3) hc (by rw [hz3 77 (by omega) (by omega) (by omega)]; exact h7) hk1 hk]
      refine ⟨_, rfl, fun j => ?_, fun j => ?_, fun j => ?_, fun x h1 h2 h3 h4 h5 => ?_⟩
      · rw [w_k_wn (by omega)]
        by_cases e : j = k
        · subst e; rw [w_k_wv, if_pos rfl, hw]
        · rw [w_k_wq (by omega), if_neg e, hz3 78 (by omega) (by omega) (by omega)]
      · by_cases e : j = k
        · subst e; rw [w_k_wv, if_pos rfl]
        · rw [w_k_wq (by omega), if_neg e, w_k_wn (by omega), hz3 79 (by omega) (by omega) (by omega)]
      · rw [w_k_wn (by omega), w_k_wn (by omega), hz 82 (by omega)]
        by_cases e : j = k
        · subst e; rw [w_k_wv, if_pos rfl, hm]
        · rw [w_k_wq (by omega), if_neg e, h82]
      · rw [w_k_wn h2, w_k_wn h1, hz3 x h3 h4 h5]
    have hx0 : g_w u 82 k (w_q_b m) (c + 6 + k) 0 = V (10 + 12 * k) := by rw [hu3 _ (by omega) (by omega) (by omega)]; exact hA 0 (by omega)
    have pay : (w_o_ans V L k || w_o_must1 V L k) = true → ∃ y, f12_56 (g_w u 82 k (w_q_b m)) (nI k) c l (c + 6 + k) (nI k) = some y ∧ (∀ j, y 78 j = if j = k then w_o_claim1 V L k else t 78 j) ∧ (∀ j, y 79 j = if j = k then w_o_whom1 V k else t 79 j) ∧ (∀ j, y 82 j = if j = k then w_q_b (w_o_must1 V L k) else t 82 j) ∧
      ∀ x, x ≠ 78 → x ≠ 79 → x ≠ 82 → x ≠ 84 → x ≠ l + 7 → y x = t x := by
      intro hyes
      unfold f12_56
      obtain ⟨z, r1, r2⟩ := w_e35 (k := V (10 + 12 * k)) (lr _ hu3) (p := 84) (by omega)
      rw [hx0, r1, w_k_bd]
      refine fin z _ r2 ?_
      unfold w_o_claim1
      rw [if_pos hyes]
      exact w_q_owed_cg (fun i hi => by rw [w_k_wn (by omega)]; exact hnm i hi) hok
    cases a with
    | true =>
      rw [if_neg (by decide)]
      exact pay (by rw [← ha]; rfl)
    | false =>
      rw [if_pos (show w_q_b false = 0 from rfl)]
      cases m with
      | true =>
        rw [if_neg (by decide)]
        exact pay (by rw [← ha, ← hm]; rfl)
      | false =>
        rw [if_pos (show w_q_b false = 0 from rfl)]
        refine fin _ 0 (fun _ _ => rfl) ?_
        unfold w_o_claim1
        rw [← ha, ← hm]; rfl
  unfold f12
  rw [if_pos (w_k_hin (by omega)), h7, p1, w_k_bs, w_k_nat (by omega), p3 (c + 6 + k) (by omega), p3 c (by omega), hA 0 (by omega), H.1.2.2.1, show 10 + 12 * k + 0 = 10 + 12 * k from rfl, q1, w_k_bd, eans]
  have h84 : ∀ i, i < 8 → u2 84 i = w_o_nm V L k i := fun i hi => by rw [q2 84 (by omega)]; exact p2 i hi
  have h82 : u2 82 = t 82 := by rw [q2 82 (by omega), p3 82 (by omega)]
  cases ha : w_o_ans V L k with
  | true =>
    rw [if_neg (by decide)]
    unfold f12_44
    exact rest u2 true false f2 h84 h82 ha.symm (by unfold w_o_must1; rw [ha]; rfl)
  | false =>
    rw [if_pos (show w_q_b false = 0 from rfl)]
    have e26' : f26 u2 (c + 6 + k) 3 = some (V (17 + 12 * k + 3)) := w_e26 (i := 3) ((cv u2 f2).2.1 k (by omega)) (by omega)
    rw [e26', w_k_bs, show 17 + 12 * k + 3 = 20 + 12 * k by omega]
    by_cases hs : V (20 + 12 * k) = 0
    · rw [if_pos hs]
      obtain ⟨u3, r1, r2⟩ := w_e34 (t := 1) (k := V (10 + 12 * k)) (h := V 2) (lr u2 f2) (p := 84) (by omega)
      have esw : w_q_holds L 1 (V (10 + 12 * k)) (V 2) (u2 84) = w_o_sw V L k := w_q_holds_cg h84 hok
      have x0 : u2 (c + 6 + k) 0 = V (10 + 12 * k) := by rw [f2 _ (by omega) (by omega) (by omega)]; exact hA 0 (by omega)
      have x1 : u2 c 3 = V 2 := by rw [f2 _ (by omega) (by omega) (by omega)]; exact H.1.2.2.1
      rw [x0, x1, r1, w_k_bd, esw]
      have f3' : ∀ x, x ≠ 82 → x ≠ 84 → x ≠ l + 7 → u3 x = t x := fun x h1 h2 h3 => by rw [r2 x h3, f2 x h1 h2 h3]
      have h84' : ∀ i, i < 8 → u3 84 i = w_o_nm V L k i := fun i hi => by rw [r2 84 (by omega)]; exact h84 i hi
      have h82' : u3 82 = t 82 := by rw [r2 82 (by omega), h82]
      cases hw : w_o_sw V L k with
      | true =>
        rw [if_neg (by decide)]
        exact rest u3 false true f3' h84' h82' ha.symm (by unfold w_o_must1; rw [ha, hw, decide_eq_true hs]; rfl)
      | false =>
        rw [if_pos (show w_q_b false = 0 from rfl)]
        unfold f12_44
        exact rest u3 false false f3' h84' h82' ha.symm (by unfold w_o_must1; rw [ha, hw, decide_eq_true hs]; rfl)
    · rw [if_neg hs]
      unfold f12_44
      exact rest u2 false false f2 h84 h82 ha.symm (by unfold w_o_must1; rw [ha, decide_eq_false hs]; rfl)
end EC2
