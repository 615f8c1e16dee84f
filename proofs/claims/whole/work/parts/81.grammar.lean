/-! the grammar -/
abbrev w_t_R : Type := (Int32 × Nat) ⊕ (Nat × List Int32)
section GR
variable (T : Nat → Int32) (n : Nat)
def w_t_lp (sg : Nat → Option Int32) (φ : Nat → Nat → w_t_R) : Nat → Nat → Nat → List Int32 → w_t_R
  | 0, p, _, xs => .inr (p, xs)
  | k + 1, p, o, xs => match sg p with
    | none => .inr (p, xs)
    | some c => match φ (w_t_nx T n p) o with
      | .inl e => .inl e
      | .inr (q, ys) => w_t_lp sg φ k q o (xs ++ (ys ++ [c]))
def w_t_bin (sg : Nat → Option Int32) (φ : Nat → Nat → w_t_R) (p o : Nat) : w_t_R := match φ p o with
  | .inl e => .inl e
  | .inr (q, xs) => w_t_lp T n sg φ n q o xs
def w_t_sP (p : Nat) : Option Int32 := if w_t_kd T n p = 42 ∨ w_t_kd T n p = 47 then some (w_t_kd T n p) else none
def w_t_sS (p : Nat) : Option Int32 := if w_t_kd T n p = 43 ∨ w_t_kd T n p = 45 then some (w_t_kd T n p) else none
def w_t_sA (p : Nat) : Option Int32 := if w_t_wof T n p 7 = 0 then some 38 else none
def w_t_sO (p : Nat) : Option Int32 := if w_t_wof T n p 6 = 0 then some 124 else none
def w_t_prod (φ : Nat → Nat → w_t_R) : Nat → Nat → w_t_R := w_t_bin T n (w_t_sP T n) φ
def w_t_sum (φ : Nat → Nat → w_t_R) : Nat → Nat → w_t_R := w_t_bin T n (w_t_sS T n) (w_t_prod T n φ)
def w_t_both (φ : Nat → Nat → w_t_R) : Nat → Nat → w_t_R := w_t_bin T n (w_t_sA T n) φ
def w_t_eith (φ : Nat → Nat → w_t_R) : Nat → Nat → w_t_R := w_t_bin T n (w_t_sO T n) (w_t_both T n φ)
def w_t_sign (c : Int32) (q : Nat) (xs : List Int32) : w_t_R := if w_t_kd T n q = c then .inr (w_t_nx T n q, xs) else .inl (1, q)
def w_t_par (φ : Nat → Nat → w_t_R) (p o : Nat) : w_t_R := if o < 6 then (match w_t_sum T n φ (w_t_nx T n p) (o + 1) with
  | .inl e => .inl e
  | .inr (q, xs) => w_t_sign T n 41 q xs) else .inl (3, p)
def w_t_cho (φ : Nat → Nat → w_t_R) (c : Int32) (p o : Nat) : w_t_R := if w_t_kd T n p = 40 then (if o < 6 then (match w_t_sum T n φ (w_t_nx T n p) (o + 1) with
  | .inl e => .inl e
  | .inr (q, xs) => if w_t_kd T n q = 44 then (match w_t_sum T n φ (w_t_nx T n q) (o + 1) with
    | .inl e => .inl e
    | .inr (r, ys) => w_t_sign T n 41 r (xs ++ (ys ++ [c]))) else .inl (1, q)) else .inl (3, p)) else .inl (1, p)
def w_t_unit (φ : Nat → Nat → w_t_R) (p o : Nat) : w_t_R :=
  if w_t_kd T n p = 40 then w_t_par T n φ p o
  else if w_t_kd T n p = 257 then (if w_t_num T n p < 0 ∨ 9999 < w_t_num T n p then .inl (2, p) else .inr (w_t_nx T n p, [256 + w_t_num T n p]))
  else if w_t_wof T n p 9 = -1 then (if w_t_wof T n p 10 = -1 then .inl (1, p) else .inr (w_t_nx T n p, [w_t_wof T n p 10]))
  else w_t_cho T n φ (if w_t_wof T n p 9 = 0 then 108 else 109) (w_t_nx T n p) o
def w_t_U : Nat → Nat → Nat → w_t_R
  | 0 => fun p _ => .inl (1, p)
  | k + 1 => fun p o => w_t_unit T n (w_t_U k) p o
def w_t_E (p o : Nat) : w_t_R := w_t_sum T n (w_t_U T n 9) p o
def w_t_comp (p o : Nat) : w_t_R := match w_t_E T n p o with
  | .inl e => .inl e
  | .inr (q, xs) => if w_t_kd T n q = 60 ∨ w_t_kd T n q = 62 ∨ w_t_kd T n q = 61 then (match w_t_E T n (w_t_nx T n q) o with
    | .inl e => .inl e
    | .inr (r, ys) => .inr (r, xs ++ (ys ++ [w_t_kd T n q]))) else .inl (1, q)
def w_t_cond (φ : Nat → Nat → w_t_R) (p o : Nat) : w_t_R :=
  if w_t_wof T n p 8 = 0 then (if o < 6 then (match φ (w_t_nx T n p) (o + 1) with
    | .inl e => .inl e
    | .inr (q, xs) => .inr (q, xs ++ [33])) else .inl (3, p))
  else if w_t_kd T n p = 91 then (if o < 6 then (match w_t_eith T n φ (w_t_nx T n p) (o + 1) with
    | .inl e => .inl e
    | .inr (q, xs) => w_t_sign T n 93 q xs) else .inl (3, p))
  else w_t_comp T n p o
def w_t_C : Nat → Nat → Nat → w_t_R
  | 0 => fun p _ => .inl (1, p)
  | k + 1 => fun p o => w_t_cond T n (w_t_C k) p o
def w_t_X (p o : Nat) : w_t_R := w_t_eith T n (w_t_C T n 9) p o
abbrev w_t_RB : Type := (Int32 × Nat) ⊕ (Nat × Int32)
def w_t_bits (w : Int32) : Int32 := if w = 6 then ((1 : Int32) <<< (6 &&& 31)) - 1 else (1 : Int32) <<< (w &&& 31)
def w_t_harm (p : Nat) : w_t_RB := if w_t_wof T n p 4 = -1 then .inl (1, p) else .inr (w_t_nx T n p, w_t_bits (w_t_wof T n p 4))
def w_t_term (p : Nat) : w_t_RB := if w_t_kd T n p = 257 then (if w_t_num T n p < 1 ∨ 3 < w_t_num T n p then .inl (2, p) else .inr (w_t_nx T n p, (1 : Int32) <<< (w_t_num T n p &&& 31))) else .inl (1, p)
def w_t_ll (item : Nat → w_t_RB) : Nat → Nat → Int32 → w_t_RB
  | 0, p, th => .inr (p, th)
  | k + 1, p, th => if w_t_kd T n p = 44 then (match item (w_t_nx T n p) with
    | .inl e => .inl e
    | .inr (q, b) => w_t_ll item k q (th ||| b)) else .inr (p, th)
def w_t_list (item : Nat → w_t_RB) (p : Nat) : w_t_RB := match item p with
  | .inl e => .inl e
  | .inr (q, b) => w_t_ll T n item n q (0 ||| b)
abbrev w_t_RC : Type := (Int32 × Nat) ⊕ (Nat × w_q_C)
def w_t_says (kb : Int32) (p : Nat) : w_t_RC :=
  if w_t_wof T n p 3 = -1 then .inl (1, p)
  else if w_t_wof T n p 3 = 2 then (match w_t_E T n (w_t_nx T n p) 0 with
    | .inl e => .inl e
    | .inr (q, xs) => .inr (q, (2, (kb, (0, xs)))))
  else if w_t_wof T n p 3 = 3 then (match w_t_list T n (w_t_term T n) (w_t_nx T n p) with
    | .inl e => .inl e
    | .inr (q, th) => .inr (q, (3, (kb, (th, [])))))
  else if w_t_wof T n p 3 = 4 then .inr (w_t_nx T n p, (4, (kb, (0, []))))
  else (match w_t_list T n (w_t_harm T n) (w_t_nx T n p) with
    | .inl e => .inl e
    | .inr (q, th) => if w_t_wof T n q 5 = 0 then (match w_t_X T n (w_t_nx T n q) 0 with
      | .inl e => .inl e
      | .inr (r, xs) => .inr (r, (w_t_wof T n p 3, (kb, (th, xs))))) else .inr (q, (w_t_wof T n p 3, (kb, (th, [])))))
abbrev w_t_RL : Type := (Int32 × Nat) ⊕ (Nat × w_q_L)
def w_t_end (q : Nat) (L : w_q_L) : w_t_RL := if w_t_kd T n q = 59 then .inr (w_t_nx T n q, L) else .inl (1, q)
def w_t_cl (p : Nat) (L : w_q_L) : w_t_RL :=
  if w_t_wof T n p 0 = -1 ∧ ¬ w_t_wof T n p 1 = 0 then .inl (1, p)
  else if ¬ L.1.length < 24 then .inl (3, p)
  else if w_t_wof T n p 1 = 0 then (if w_t_wof T n (w_t_nx T n p) 2 = -1 then .inl (1, w_t_nx T n p) else w_t_end T n (w_t_nx T n (w_t_nx T n p)) (L.1 ++ [(5, (0, (0, [])))], w_t_wof T n (w_t_nx T n p) 2))
  else (match w_t_says T n (w_t_bits (w_t_wof T n p 0)) (w_t_nx T n p) with
    | .inl e => .inl e
    | .inr (q, c) => w_t_end T n q (L.1 ++ [c], L.2))
def w_t_ps : Nat → Nat → w_q_L → (Int32 × Nat) ⊕ w_q_L
  | 0, _, L => .inr L
  | k + 1, p, L => if w_t_kd T n p = 258 then .inr L else match w_t_cl T n p L with
    | .inl e => .inl e
    | .inr (q, M) => w_t_ps k q M
def w_t_law : (Int32 × Nat) ⊕ w_q_L := w_t_ps T n 25 (w_t_sk T n 0) ([], -1)
end GR
/-! the law in the making -/
def w_k_LW (s : g_S) (l : Nat) (cs : List w_q_C) (c : w_q_C) (mix : Int32) (k : Nat) : Prop := w_k_LR s l (cs ++ [c], mix) ∧ s l 8 = nI k ∧ s (l + 5) cs.length = nI k ∧ k ≤ 500 ∧ ∀ i, i < cs.length → ∃ e, e ≤ k ∧ s (l + 5) i = nI e
def w_k_JK (s : g_S) (l : Nat) : Prop := ∃ a b, a ≤ 24 ∧ b ≤ 500 ∧ s l 1 = nI a ∧ s l 8 = nI b
theorem w_k_LW_JK {s : g_S} {l : Nat} {cs : List w_q_C} {c : w_q_C} {mix : Int32} {k : Nat} (h : w_k_LW s l cs c mix k) : w_k_JK s l := ⟨_, k, h.1.2.2.1, h.2.2.2.1, h.1.2.1, h.2.1⟩
def w_k_fl (l : Nat) (s u : g_S) : Prop := ∀ x, x ≠ 11 → ¬ (l ≤ x ∧ x ≤ l + 6) → u x = s x
def w_k_f11 (s u : g_S) : Prop := ∀ x b, x = 11 → ¬ (5 ≤ b ∧ b ≤ 9) → u x b = s x b
theorem w_e33j {s : g_S} {l : Nat} {v : Int32} (h : w_k_JK s l) (hl : 20 ≤ l) : ∃ u, f33 s l v = some u ∧ w_k_JK u l ∧ (∀ x, ¬ (l ≤ x ∧ x ≤ l + 6) → u x = s x) := by
  obtain ⟨a, b, ha, hb, h1, h2⟩ := h
  unfold f33
  rw [h1, h2]
  by_cases h0 : 0 < a
  · rw [if_pos (show (0 : Int32) < nI a from (w_k_lt (a := 0) (by omega) (by omega)).2 h0)]
    by_cases h5 : b < 500
    · obtain ⟨c, rfl⟩ : ∃ c, a = c + 1 := ⟨a - 1, by omega⟩
      rw [if_pos (show nI b < 500 from (w_k_lt (b := 500) (by omega) (by omega)).2 h5), if_pos ((w_k_inI (by omega)).2 h5)]
      simp (disch := omega) only [w_k_let, w_k_wq, h1, h2, w_k_m1]
      rw [if_pos ((w_k_inI (by omega)).2 (by omega))]
      refine ⟨_, rfl, ⟨c + 1, b + 1, ha, by omega, ?_, ?_⟩, fun x hx => ?_⟩
      · simp (disch := omega) only [w_k_wq]; exact h1
      · simp (disch := omega) only [w_k_wq, w_k_wv]; rw [w_k_s1]
      · simp (disch := omega) only [w_k_wn]
    · rw [if_neg (show ¬ nI b < 500 from w_k_nlt (b := 500) (by omega) (by omega) h5)]
      exact ⟨s, rfl, ⟨a, b, ha, hb, h1, h2⟩, fun _ _ => rfl⟩
  · rw [if_neg (show ¬ (0 : Int32) < nI a from w_k_nlt (a := 0) (by omega) (by omega) h0)]
    exact ⟨s, rfl, ⟨a, b, ha, hb, h1, h2⟩, fun _ _ => rfl⟩
theorem w_e33 {s : g_S} {l k : Nat} {v mix : Int32} {cs : List w_q_C} {a b d : Int32} {xs : List Int32} (h : w_k_LW s l cs (a, (b, (d, xs))) mix k) (hl : 20 ≤ l) (hk : k < 500) (hv : ¬ v < 0) : ∃ u, f33 s l v = some u ∧ w_k_LW u l cs (a, (b, (d, xs ++ [v]))) mix (k + 1) ∧ (∀ x, ¬ (l ≤ x ∧ x ≤ l + 6) → u x = s x) := by
  obtain ⟨⟨r0, r1, r2, r3⟩, h8, he, h5, hle⟩ := h
  have hlen : (cs ++ [(a, (b, (d, xs)))]).length = cs.length + 1 := by simp
  simp only [hlen] at r1 r2
  unfold f33
  rw [r1, h8, if_pos (show (0 : Int32) < nI (cs.length + 1) from (w_k_lt (a := 0) (by omega) (by omega)).2 (by omega)), if_pos (show nI k < 500 from (w_k_lt (b := 500) (by omega) (by omega)).2 hk), if_pos ((w_k_inI (by omega)).2 hk), w_k_nat (by omega)]
  simp (disch := omega) only [w_k_let, w_k_wq, r1, h8, w_k_m1, w_k_wv, w_k_s1]
  rw [if_pos ((w_k_inI (by omega)).2 (by omega)), w_k_nat (by omega)]
  refine ⟨_, rfl, ⟨⟨?_, ?_, ?_, fun i c hc => ?_⟩, ?_, ?_, by omega, fun i hi => ?_⟩, fun x hx => ?_⟩
  · simp (disch := omega) only [w_k_wq]; exact r0
  · simp (disch := omega) only [w_k_wq]; rw [r1]; simp
  · simp; omega
  · have hil := w_k_lt_of hc
    have hil2 : i < cs.length + 1 := by simp at hil; omega
    by_cases e : i = cs.length
    · subst e
      have hc2 : c = (a, (b, (d, xs ++ [v]))) := by
        rw [List.getElem?_append_right (Nat.le_refl _), Nat.sub_self] at hc
        cases hc; rfl
      obtain ⟨g0, g1, g2, st, g3, g4, g5, g6⟩ := r3 cs.length (a, (b, (d, xs))) (by rw [List.getElem?_append_right (Nat.le_refl _), Nat.sub_self]; rfl)
      have hst : st + xs.length = k := by
        dsimp only at g3 g5
        rw [he] at g5; exact ((w_k_eq (by omega) (by omega)).1 g5).symm
      subst hc2
      refine ⟨?_, ?_, ?_, st, ?_, ?_, ?_, fun j x hj => ?_⟩
      · simp (disch := omega) only [w_k_wq]; exact g0
      · simp (disch := omega) only [w_k_wq]; exact g1
      · simp (disch := omega) only [w_k_wq]; exact g2
      · simp; omega
      · simp (disch := omega) only [w_k_wq]; exact g4
      · simp (disch := omega) only [w_k_wv]; congr 1; simp; omega
      · by_cases ej : j = xs.length
        · subst ej
          have : x = v := by
            simp at hj; exact hj.symm
          subst this
          refine ⟨hv, ?_⟩
          rw [hst]; simp (disch := omega) only [w_k_wq, w_k_wv]
        · have hjl := w_k_lt_of hj
          have hj3 : j < xs.length := by simp at hjl; omega
          have hj2 : xs[j]? = some x := by
            dsimp only at hj
            rw [List.getElem?_append_left hj3] at hj; exact hj
          obtain ⟨q1, q2⟩ := g6 j x hj2
          refine ⟨q1, ?_⟩
          have : st + j ≠ k := by omega
          simp (disch := omega) only [w_k_wq]; exact q2
    · have hc2 : (cs ++ [(a, (b, (d, xs)))])[i]? = some c := by
        rw [List.getElem?_append_left (by omega)] at hc ⊢; exact hc
      obtain ⟨g0, g1, g2, st, g3, g4, g5, g6⟩ := r3 i c hc2
      obtain ⟨en, hen, he2⟩ := hle i (by omega)
      have hst : st + c.2.2.2.length = en := by
        rw [g5] at he2; exact (w_k_eq (by omega) (by omega)).1 he2
      refine ⟨?_, ?_, ?_, st, g3, ?_, ?_, fun j x hj => ?_⟩
      · simp (disch := omega) only [w_k_wq]; exact g0
      · simp (disch := omega) only [w_k_wq]; exact g1
      · simp (disch := omega) only [w_k_wq]; exact g2
      · simp (disch := omega) only [w_k_wq]; exact g4
      · simp (disch := omega) only [w_k_wq]; exact g5
      · have hjl := w_k_lt_of hj
        obtain ⟨q1, q2⟩ := g6 j x hj
        refine ⟨q1, ?_⟩
        have : st + j ≠ k := by omega
        simp (disch := omega) only [w_k_wq]; exact q2
  · simp (disch := omega) only [w_k_wq, w_k_wv]
  · simp (disch := omega) only [w_k_wq, w_k_wv]
  · obtain ⟨en, hen, he2⟩ := hle i hi
    refine ⟨en, by omega, ?_⟩
    simp (disch := omega) only [w_k_wq]; exact he2
  · simp (disch := omega) only [w_k_wn]
/-! the reader reads as the grammar says -/
def w_k_FL (u : g_S) (T : Nat → Int32) (n l : Nat) (e : Int32 × Nat) : Prop := w_k_RT u T n l ∧ u 11 1 = e.1 ∧ u 11 0 = nI e.2 ∧ w_k_JK u l
def w_k_PR (T : Nat → Int32) (n l o : Nat) (cs : List w_q_C) (a b d : Int32) (xs : List Int32) (mix : Int32) (k p0 : Nat) (s : g_S) (R : w_t_R) (w : Int32 × g_S) : Prop := match R with
  | .inl e => w.1 = 0 ∧ w_k_FL w.2 T n l e ∧ w_k_fl l s w.2
  | .inr (q, ys) => w.1 = 1 ∧ w_k_RS w.2 T n l q ∧ w_k_LW w.2 l cs (a, (b, (d, xs ++ ys))) mix (k + ys.length) ∧ w.2 11 9 = nI o ∧ w_k_fl l s w.2 ∧ p0 + ys.length ≤ q ∧ w.2 11 1 = s 11 1
def w_k_SP (T : Nat → Int32) (n l o : Nat) (F : g_S → Option (Int32 × g_S)) (φ : Nat → Nat → w_t_R) : Prop :=
  ∀ (s : g_S) (p : Nat) (cs : List w_q_C) (a b d : Int32) (xs : List Int32) (mix : Int32) (k : Nat), w_k_RS s T n l p → w_k_LW s l cs (a, (b, (d, xs))) mix k → s 11 9 = nI o → k ≤ p → w_OK (F s) (w_k_PR T n l o cs a b d xs mix k p s (φ p o))
theorem w_k_fl_tr {l : Nat} {s t u : g_S} (h : w_k_fl l s t) (g : w_k_fl l t u) : w_k_fl l s u := fun x h1 h2 => (g x h1 h2).trans (h x h1 h2)
theorem w_k_fl_11 {l : Nat} {s u : g_S} (h : ∀ x b, x ≠ 11 → u x b = s x b) : w_k_fl l s u := fun x h1 _ => funext fun b => h x b h1
theorem w_k_fl_l {l : Nat} {s u : g_S} (h : ∀ x, ¬ (l ≤ x ∧ x ≤ l + 6) → u x = s x) : w_k_fl l s u := fun x _ h2 => h x h2
theorem w_k_LW_11 {s u : g_S} {l k : Nat} {cs : List w_q_C} {c : w_q_C} {mix : Int32} (h : w_k_LW s l cs c mix k) (hl : 20 ≤ l) (hu : ∀ x b, x ≠ 11 → u x b = s x b) : w_k_LW u l cs c mix k := by
  have e : ∀ x, x ≠ 11 → u x = s x := fun x hx => funext fun b => hu x b hx
  obtain ⟨h1, h2, h3, h4, h5⟩ := h
  exact ⟨w_k_LR_cg (fun x q1 q2 => e x (by omega)) h1, by rw [e l (by omega)]; exact h2, by rw [e (l + 5) (by omega)]; exact h3, h4, fun i hi => by rw [e (l + 5) (by omega)]; exact h5 i hi⟩
theorem w_k_JK_11 {s u : g_S} {l : Nat} (h : w_k_JK s l) (hl : 20 ≤ l) (hu : ∀ x b, x ≠ 11 → u x b = s x b) : w_k_JK u l := by
  obtain ⟨a, b, h1, h2, h3, h4⟩ := h
  exact ⟨a, b, h1, h2, by rw [hu l 1 (by omega)]; exact h3, by rw [hu l 8 (by omega)]; exact h4⟩
theorem w_k_RS_l {s u : g_S} {T : Nat → Int32} {n l p : Nat} (h : w_k_RS s T n l p) (hl : 20 ≤ l) (hu : ∀ x, ¬ (l ≤ x ∧ x ≤ l + 6) → u x = s x) : w_k_RS u T n l p := by
  have w_e11 : u 11 = s 11 := hu 11 (by omega)
  have w_e1 : u 1 = s 1 := hu 1 (by omega)
  unfold w_k_RS w_k_RT at *
  rw [w_e11, w_e1]; exact h
theorem w_k_FL_l {s u : g_S} {T : Nat → Int32} {n l : Nat} {e : Int32 × Nat} (h : w_k_FL s T n l e) (hl : 20 ≤ l) (hu : ∀ x, ¬ (l ≤ x ∧ x ≤ l + 6) → u x = s x) (hj : w_k_JK u l) : w_k_FL u T n l e := by
  have w_e11 : u 11 = s 11 := hu 11 (by omega)
  have w_e1 : u 1 = s 1 := hu 1 (by omega)
  obtain ⟨h1, h2, h3, _⟩ := h
  unfold w_k_FL w_k_RT at *
  rw [w_e11, w_e1]; exact ⟨h1, h2, h3, hj⟩
section RD
variable {T : Nat → Int32} {n l : Nat}
theorem w_e67 {s : g_S} {p : Nat} {f : Int32} (hl : 20 ≤ l) (hs : w_k_RS s T n l p) (hj : w_k_JK s l) : ∃ u, f67 s f = some (0, u) ∧ w_k_FL u T n l (f, p) ∧ w_k_fl l s u := by
  unfold f67
  rw [w_k_let, w_k_let, w_k_wq (by omega), hs.2.1]
  refine ⟨_, rfl, ⟨w_k_RT_w (w_k_RT_w hs.1 (by omega)) (by omega), ?_, w_k_wv, w_k_JK_11 hj hl (fun x b hx => by rw [w_k_wq (by omega), w_k_wq (by omega)])⟩, w_k_fl_11 (fun x b hx => by rw [w_k_wq (by omega), w_k_wq (by omega)])⟩
  rw [w_k_wq (by omega), w_k_wv]
theorem w_e67b {s : g_S} {p : Nat} {f : Int32} (hl : 20 ≤ l) (hs : w_k_RS s T n l p) (hj : w_k_JK s l) {o k p0 : Nat} {cs : List w_q_C} {a b d mix : Int32} {xs : List Int32} : w_OK (g_bd (f67 s f) fun v s4 => if m_isb v = true then some (v, s4) else none) (w_k_PR T n l o cs a b d xs mix k p0 s (.inl (f, p))) := by
  obtain ⟨u, h1, h2, h3⟩ := w_e67 (f := f) hl hs hj
  rw [h1, w_k_bd, if_pos w_k_b0]
  exact w_ok_some ⟨rfl, h2, h3⟩
theorem w_lp_gen (hn : n ≤ 500) (hB : ∀ j, j < n → w_k_wi (T j) 0 255) (hl : 20 ≤ l) (hl2 : l < 565) (hlay : g_lay l = o_4 l) {F : g_S → Option (Int32 × g_S)} {φ : Nat → Nat → w_t_R} {o : Nat} (hF : w_k_SP T n l o F φ) {sg : Nat → Option Int32} (hsg : ∀ p c, sg p = some c → p < n ∧ ¬ c < 0)
    {L : g_S → Int32 → Int32 → Option (Int32 × g_S)} {G : g_S → Int32 → Int32 → Option ((Int32 × Int32 × g_S) ⊕ (Int32 × g_S))} (hL : ∀ s x y, L s x y = g_st (G s x y) (fun S => L S.2.2 S.1 S.2.1))
    (g0 : ∀ s y, G s 0 y = some (.inr (0, s))) (g1 : ∀ s p i, w_k_RS s T n l p → i ≤ n → (i = n ∨ sg p = none) → G s 1 (nI i) = some (.inr (1, s)))
    (g2 : ∀ s p i c, w_k_RS s T n l p → i < n → sg p = some c → G s 1 (nI i) = (f68 s).bind fun s2 => g_bd (F s2) fun v3 s4 => if g_lay (s4 11 4).toNatClampNeg = o_4 (s4 11 4).toNatClampNeg then (f33 s4 ((s4 11 4).toNatClampNeg) c).bind fun s7 => some (.inl (v3, (nI i + 1, s7))) else none) :
    ∀ (kf i : Nat) (s : g_S) (p p0 k : Nat) (cs : List w_q_C) (a b d mix : Int32) (xs acc : List Int32), i + kf = n → w_k_RS s T n l p → w_k_LW s l cs (a, (b, (d, xs ++ acc))) mix (k + acc.length) → s 11 9 = nI o → k ≤ p0 → p0 + acc.length ≤ p →
      w_OK (L s 1 (nI i)) (w_k_PR T n l o cs a b d xs mix k p0 s (w_t_lp T n sg φ kf p o acc))
  | 0, i, s, p, p0, k, cs, a, b, d, mix, xs, acc, hi, hs, hw, ho, hk, hp => by
    rw [hL, g1 s p i hs (by omega) (Or.inl (by omega))]
    exact w_ok_some ⟨rfl, hs, hw, ho, fun _ _ _ => rfl, hp, rfl⟩
  | kf + 1, i, s, p, p0, k, cs, a, b, d, mix, xs, acc, hi, hs, hw, ho, hk, hp => by
    rw [hL]
    unfold w_t_lp
    cases hsp : sg p with
    | none =>
      rw [g1 s p i hs (by omega) (Or.inr hsp)]
      exact w_ok_some ⟨rfl, hs, hw, ho, fun _ _ _ => rfl, hp, rfl⟩
    | some c =>
      obtain ⟨hpn, hc0⟩ := hsg p c hsp
      have hnx := w_t_nx_lt (T := T) hpn
      rw [g2 s p i c hs (by omega) hsp]
      obtain ⟨u, p1, p2, p3⟩ := w_e68n hn hB hs
      have fu : ∀ x b, x ≠ 11 → u x b = s x b := fun x b hx => p3 x b (by omega)
      obtain ⟨⟨v, t⟩, q1, q2⟩ := hF u (w_t_nx T n p) cs a b d (xs ++ acc) mix (k + acc.length) p2 (w_k_LW_11 hw hl fu) (by rw [p3 11 9 (by omega)]; exact ho) (by omega)
      rw [p1, w_k_bs, q1, w_k_bd]
      unfold w_k_PR at q2
      cases hφ : φ (w_t_nx T n p) o with
      | inl e =>
        rw [hφ] at q2
        obtain ⟨r1, r2, r3⟩ := q2
        dsimp only at r1 r2 r3
        have hl4 : (t 11 4).toNatClampNeg = l := by rw [r2.1.2.2.1, w_k_nat (by omega)]
        obtain ⟨z, z1, z2, z3⟩ := w_e33j (v := c) r2.2.2.2 hl
        rw [hl4, if_pos hlay, z1, w_k_bs, r1]
        show w_OK (L z 0 (nI i + 1)) _
        rw [hL, g0]
        exact w_ok_some ⟨rfl, w_k_FL_l r2 hl z3 z2, w_k_fl_tr (w_k_fl_11 fu) (w_k_fl_tr r3 (w_k_fl_l z3))⟩
      | inr w =>
        obtain ⟨q, ys⟩ := w
        rw [hφ] at q2
        obtain ⟨r1, r2, r3, r4, r5, r6, r7⟩ := q2
        dsimp only at r1 r2 r3 r4 r5 r6 r7
        have hl4 : (t 11 4).toNatClampNeg = l := by rw [r2.1.2.2.1, w_k_nat (by omega)]
        have hq := r2.2.2.2.2.2
        obtain ⟨z, z1, z2, z3⟩ := w_e33 (v := c) r3 hl (by omega) hc0
        rw [hl4, if_pos hlay, z1, w_k_bs, r1, w_k_s1]
        have eacc : xs ++ acc ++ ys ++ [c] = xs ++ (acc ++ (ys ++ [c])) := by simp
        have elen : k + acc.length + ys.length + 1 = k + (acc ++ (ys ++ [c])).length := by simp; omega
        rw [eacc, elen] at z2
        obtain ⟨w, w1, w2⟩ := w_lp_gen hn hB hl hl2 hlay hF hsg hL g0 g1 g2 kf (i + 1) z q p0 k cs a b d mix xs (acc ++ (ys ++ [c])) (by omega) (w_k_RS_l r2 hl z3) z2 (by rw [show z 11 = t 11 from z3 11 (by omega)]; exact r4) hk (by simp; omega)
        refine ⟨w, w1, ?_⟩
        have hfr : w_k_fl l s z := w_k_fl_tr (w_k_fl_11 fu) (w_k_fl_tr r5 (w_k_fl_l z3))
        have e111 : z 11 1 = s 11 1 := by rw [show z 11 = t 11 from z3 11 (by omega), r7, p3 11 1 (by omega)]
        unfold w_k_PR at w2 ⊢
        dsimp only
        cases hR : w_t_lp T n sg φ kf q o (acc ++ (ys ++ [c])) with
        | inl e => rw [hR] at w2; exact ⟨w2.1, w2.2.1, w_k_fl_tr hfr w2.2.2⟩
        | inr e => rw [hR] at w2; exact ⟨w2.1, w2.2.1, w2.2.2.1, w2.2.2.2.1, w_k_fl_tr hfr w2.2.2.2.2.1, w2.2.2.2.2.2.1, by rw [w2.2.2.2.2.2.2, e111]⟩
theorem w_bin_gen (hn : n ≤ 500) (hB : ∀ j, j < n → w_k_wi (T j) 0 255) (hl : 20 ≤ l) (hl2 : l < 565) (hlay : g_lay l = o_4 l) {F : g_S → Option (Int32 × g_S)} {φ : Nat → Nat → w_t_R} {o : Nat} (hF : w_k_SP T n l o F φ) {sg : Nat → Option Int32} (hsg : ∀ p c, sg p = some c → p < n ∧ ¬ c < 0)
    {L : g_S → Int32 → Int32 → Option (Int32 × g_S)} {G : g_S → Int32 → Int32 → Option ((Int32 × Int32 × g_S) ⊕ (Int32 × g_S))} (hL : ∀ s x y, L s x y = g_st (G s x y) (fun S => L S.2.2 S.1 S.2.1))
    (g0 : ∀ s y, G s 0 y = some (.inr (0, s))) (g1 : ∀ s p i, w_k_RS s T n l p → i ≤ n → (i = n ∨ sg p = none) → G s 1 (nI i) = some (.inr (1, s)))
    (g2 : ∀ s p i c, w_k_RS s T n l p → i < n → sg p = some c → G s 1 (nI i) = (f68 s).bind fun s2 => g_bd (F s2) fun v3 s4 => if g_lay (s4 11 4).toNatClampNeg = o_4 (s4 11 4).toNatClampNeg then (f33 s4 ((s4 11 4).toNatClampNeg) c).bind fun s7 => some (.inl (v3, (nI i + 1, s7))) else none) :
    w_k_SP T n l o (fun s => g_bd (F s) fun v1 s2 => L s2 v1 0) (w_t_bin T n sg φ) := by
  intro s p cs a b d xs mix k hs hw ho hk
  obtain ⟨⟨v, t⟩, q1, q2⟩ := hF s p cs a b d xs mix k hs hw ho hk
  dsimp only
  rw [q1, w_k_bd]
  unfold w_k_PR at q2
  unfold w_t_bin
  cases hφ : φ p o with
  | inl e =>
    rw [hφ] at q2
    obtain ⟨r1, r2, r3⟩ := q2
    dsimp only at r1 r2 r3
    rw [r1, hL, g0]
    exact w_ok_some ⟨rfl, r2, r3⟩
  | inr w =>
    obtain ⟨q, ys⟩ := w
    rw [hφ] at q2
    obtain ⟨r1, r2, r3, r4, r5, r6, r7⟩ := q2
    dsimp only at r1 r2 r3 r4 r5 r6 r7
    rw [r1]
    obtain ⟨w, w1, w2⟩ := w_lp_gen hn hB hl hl2 hlay hF hsg hL g0 g1 g2 n 0 t q p k cs a b d mix xs ys (by omega) r2 r3 r4 hk r6
    refine ⟨w, w1, ?_⟩
    unfold w_k_PR at w2 ⊢
    dsimp only
    cases hR : w_t_lp T n sg φ n q o ys with
    | inl e => rw [hR] at w2; exact ⟨w2.1, w2.2.1, w_k_fl_tr r5 w2.2.2⟩
    | inr e => rw [hR] at w2; exact ⟨w2.1, w2.2.1, w2.2.2.1, w2.2.2.2.1, w_k_fl_tr r5 w2.2.2.2.2.1, w2.2.2.2.2.2.1, by rw [w2.2.2.2.2.2.2, r7]⟩
end RD
