/-! faults are 1, 2 or 3 -/
def w_t_f3 {A : Type} (R : (Int32 × Nat) ⊕ A) : Prop := ∀ e, R = .inl e → e.1 = 1 ∨ e.1 = 2 ∨ e.1 = 3
theorem w_f3_1 {A : Type} {q : Nat} : w_t_f3 (.inl (1, q) : (Int32 × Nat) ⊕ A) := fun e h => by cases h; exact Or.inl rfl
theorem w_f3_2 {A : Type} {q : Nat} : w_t_f3 (.inl (2, q) : (Int32 × Nat) ⊕ A) := fun e h => by cases h; exact Or.inr (Or.inl rfl)
theorem w_f3_3 {A : Type} {q : Nat} : w_t_f3 (.inl (3, q) : (Int32 × Nat) ⊕ A) := fun e h => by cases h; exact Or.inr (Or.inr rfl)
theorem w_f3_r {A : Type} {a : A} : w_t_f3 (.inr a : (Int32 × Nat) ⊕ A) := fun e h => by cases h
theorem w_f3_e {A B : Type} {R : (Int32 × Nat) ⊕ A} {e : Int32 × Nat} (h : w_t_f3 R) (hR : R = .inl e) : w_t_f3 (.inl e : (Int32 × Nat) ⊕ B) := fun g hg => by cases hg; exact h e hR
section FF
variable {T : Nat → Int32} {n : Nat}
theorem w_f3_lp {sg : Nat → Option Int32} {φ : Nat → Nat → w_t_R} (h : ∀ p o, w_t_f3 (φ p o)) : ∀ k p o xs, w_t_f3 (w_t_lp T n sg φ k p o xs)
  | 0, p, o, xs => w_f3_r
  | k + 1, p, o, xs => by
    unfold w_t_lp
    cases sg p with
    | none => exact w_f3_r
    | some c =>
      dsimp only
      cases hR : φ (w_t_nx T n p) o with
      | inl e => exact w_f3_e (h _ _) hR
      | inr e => exact w_f3_lp h k _ _ _
theorem w_f3_bin {sg : Nat → Option Int32} {φ : Nat → Nat → w_t_R} (h : ∀ p o, w_t_f3 (φ p o)) (p o : Nat) : w_t_f3 (w_t_bin T n sg φ p o) := by
  unfold w_t_bin
  cases hR : φ p o with
  | inl e => exact w_f3_e (h _ _) hR
  | inr e => exact w_f3_lp h _ _ _ _
theorem w_f3_sum {φ : Nat → Nat → w_t_R} (h : ∀ p o, w_t_f3 (φ p o)) (p o : Nat) : w_t_f3 (w_t_sum T n φ p o) := w_f3_bin (fun p o => w_f3_bin h p o) p o
theorem w_f3_eith {φ : Nat → Nat → w_t_R} (h : ∀ p o, w_t_f3 (φ p o)) (p o : Nat) : w_t_f3 (w_t_eith T n φ p o) := w_f3_bin (fun p o => w_f3_bin h p o) p o
theorem w_f3_sign {c : Int32} {q : Nat} {xs : List Int32} : w_t_f3 (w_t_sign T n c q xs) := by
  unfold w_t_sign; split
  · exact w_f3_r
  · exact w_f3_1
theorem w_f3_unit {φ : Nat → Nat → w_t_R} (h : ∀ p o, w_t_f3 (φ p o)) (p o : Nat) : w_t_f3 (w_t_unit T n φ p o) := by
  unfold w_t_unit w_t_par w_t_cho
  split
  · split
    · cases hR : w_t_sum T n φ (w_t_nx T n p) (o + 1) with
      | inl e => exact w_f3_e (w_f3_sum h _ _) hR
      | inr e => exact w_f3_sign
    · exact w_f3_3
  · split
    · split
      · exact w_f3_2
      · exact w_f3_r
    · split
      · split
        · exact w_f3_1
        · exact w_f3_r
      · split
        · split
          · cases hR : w_t_sum T n φ (w_t_nx T n (w_t_nx T n p)) (o + 1) with
            | inl e => exact w_f3_e (w_f3_sum h _ _) hR
            | inr e =>
              dsimp only
              split
              · cases hR2 : w_t_sum T n φ (w_t_nx T n e.1) (o + 1) with
                | inl w_e2 => exact w_f3_e (w_f3_sum h _ _) hR2
                | inr w_e2 => exact w_f3_sign
              · exact w_f3_1
          · exact w_f3_3
        · exact w_f3_1
theorem w_f3_U : ∀ k p o, w_t_f3 (w_t_U T n k p o)
  | 0, p, o => w_f3_1
  | k + 1, p, o => w_f3_unit (w_f3_U k) p o
theorem w_f3_E (p o : Nat) : w_t_f3 (w_t_E T n p o) := w_f3_sum (w_f3_U 9) p o
theorem w_f3_comp (p o : Nat) : w_t_f3 (w_t_comp T n p o) := by
  unfold w_t_comp
  cases hR : w_t_E T n p o with
  | inl e => exact w_f3_e (w_f3_E _ _) hR
  | inr e =>
    dsimp only
    split
    · cases hR2 : w_t_E T n (w_t_nx T n e.1) o with
      | inl w_e2 => exact w_f3_e (w_f3_E _ _) hR2
      | inr w_e2 => exact w_f3_r
    · exact w_f3_1
theorem w_f3_cond {φ : Nat → Nat → w_t_R} (h : ∀ p o, w_t_f3 (φ p o)) (p o : Nat) : w_t_f3 (w_t_cond T n φ p o) := by
  unfold w_t_cond
  split
  · split
    · cases hR : φ (w_t_nx T n p) (o + 1) with
      | inl e => exact w_f3_e (h _ _) hR
      | inr e => exact w_f3_r
    · exact w_f3_3
  · split
    · split
      · cases hR : w_t_eith T n φ (w_t_nx T n p) (o + 1) with
        | inl e => exact w_f3_e (w_f3_eith h _ _) hR
        | inr e => exact w_f3_sign
      · exact w_f3_3
    · exact w_f3_comp p o
theorem w_f3_C : ∀ k p o, w_t_f3 (w_t_C T n k p o)
  | 0, p, o => w_f3_1
  | k + 1, p, o => w_f3_cond (w_f3_C k) p o
theorem w_f3_X (p o : Nat) : w_t_f3 (w_t_X T n p o) := w_f3_eith (w_f3_C 9) p o
theorem w_f3_ll {item : Nat → w_t_RB} (h : ∀ p, w_t_f3 (item p)) : ∀ k p th, w_t_f3 (w_t_ll T n item k p th)
  | 0, p, th => w_f3_r
  | k + 1, p, th => by
    unfold w_t_ll
    split
    · cases hR : item (w_t_nx T n p) with
      | inl e => exact w_f3_e (h _) hR
      | inr e => exact w_f3_ll h k _ _
    · exact w_f3_r
theorem w_f3_list {item : Nat → w_t_RB} (h : ∀ p, w_t_f3 (item p)) (p : Nat) : w_t_f3 (w_t_list T n item p) := by
  unfold w_t_list
  cases hR : item p with
  | inl e => exact w_f3_e (h _) hR
  | inr e => exact w_f3_ll h _ _ _
theorem w_f3_harm (p : Nat) : w_t_f3 (w_t_harm T n p) := by
  unfold w_t_harm; split
  · exact w_f3_1
  · exact w_f3_r
theorem w_f3_term (p : Nat) : w_t_f3 (w_t_term T n p) := by
  unfold w_t_term; split
  · split
    · exact w_f3_2
    · exact w_f3_r
  · exact w_f3_1
theorem w_f3_says (kb : Int32) (p : Nat) : w_t_f3 (w_t_says T n kb p) := by
  unfold w_t_says
  split
  · exact w_f3_1
  · split
    · cases hR : w_t_E T n (w_t_nx T n p) 0 with
      | inl e => exact w_f3_e (w_f3_E _ _) hR
      | inr e => exact w_f3_r
    · split
      · cases hR : w_t_list T n (w_t_term T n) (w_t_nx T n p) with
        | inl e => exact w_f3_e (w_f3_list w_f3_term _) hR
        | inr e => exact w_f3_r
      · split
        · exact w_f3_r
        · cases hR : w_t_list T n (w_t_harm T n) (w_t_nx T n p) with
          | inl e => exact w_f3_e (w_f3_list w_f3_harm _) hR
          | inr e =>
            dsimp only
            split
            · cases hR2 : w_t_X T n (w_t_nx T n e.1) 0 with
              | inl w_e2 => exact w_f3_e (w_f3_X _ _) hR2
              | inr w_e2 => exact w_f3_r
            · exact w_f3_r
theorem w_f3_end (q : Nat) (L : w_q_L) : w_t_f3 (w_t_end T n q L) := by
  unfold w_t_end; split
  · exact w_f3_r
  · exact w_f3_1
theorem w_f3_cl (p : Nat) (L : w_q_L) : w_t_f3 (w_t_cl T n p L) := by
  unfold w_t_cl
  split
  · exact w_f3_1
  · split
    · exact w_f3_3
    · split
      · split
        · exact w_f3_1
        · exact w_f3_end _ _
      · cases hR : w_t_says T n (w_t_bits (w_t_wof T n p 0)) (w_t_nx T n p) with
        | inl e => exact w_f3_e (w_f3_says _ _) hR
        | inr e => exact w_f3_end _ _
theorem w_f3_ps : ∀ k p L, w_t_f3 (w_t_ps T n k p L)
  | 0, p, L => w_f3_r
  | k + 1, p, L => by
    unfold w_t_ps
    split
    · exact w_f3_r
    · cases hR : w_t_cl T n p L with
      | inl e => exact w_f3_e (w_f3_cl _ _) hR
      | inr e => exact w_f3_ps k _ _
theorem w_f3_law : w_t_f3 (w_t_law T n) := w_f3_ps 25 _ _
end FF
/-! law, of the class -/
def w_a_law0 (A : w_k_A) (f : Int32) (Ls : List w_q_L) : w_k_A := ((0, A.1.2), (f, (Ls, A.2.2.2)))
def w_a_lawop (A : w_k_A) (n : Int32) : (Int32 ⊕ Nat) × w_k_A :=
  if w_k_wi n 0 (nI A.1.1) then (if A.2.2.1.length = 4 then (.inl (-1), w_a_law0 A (-1) A.2.2.1) else match w_t_law A.1.2 n.toNatClampNeg with
    | .inl e => (.inl (e.1 - 10), w_a_law0 A (nI e.2) A.2.2.1)
    | .inr L => (.inl (nI A.2.2.1.length), w_a_law0 A (-1) (A.2.2.1 ++ [L])))
  else (.inr 0, A)
theorem w_k_Vok_n {n m : Nat} {V : w_k_V} (h : n ≤ m) (H : w_k_Vok n V) : w_k_Vok m V := by
  obtain ⟨a1, a2, a3, a4, a5, a6, a7⟩ := H
  exact ⟨a1, a2, a3, a4, a5, a6.elim Or.inl (fun ⟨l, h1, h2⟩ => Or.inr ⟨l, by omega, h2⟩), a7⟩
theorem w_v_lawop {A : w_k_A} {n : Int32} (hA : w_k_Aok A) : w_k_Aok (w_a_lawop A n).2 := by
  obtain ⟨a1, a2, a3, a4, a5, a6⟩ := hA
  have same : ∀ f, w_k_Aok (w_a_law0 A f A.2.2.1) := fun f => ⟨Nat.zero_le _, fun j hj => absurd hj (Nat.not_lt_zero _), a3, a4, a5, a6⟩
  unfold w_a_lawop
  split
  · split
    · exact same _
    · split
      · exact same _
      · rename_i h4 L hL
        have hle : A.2.2.1.length ≤ (A.2.2.1 ++ [L]).length := by simp
        refine ⟨Nat.zero_le _, fun j hj => absurd hj (Nat.not_lt_zero _), ?_, w_k_Vok_n hle a4, a5, fun V hV => w_k_Vok_n hle (a6 V hV)⟩
        show (A.2.2.1 ++ [L]).length ≤ 4
        rw [List.length_append]; show A.2.2.1.length + 1 ≤ 4; omega
  · exact ⟨a1, a2, a3, a4, a5, a6⟩
theorem w_k_CI_L {s t : g_S} {A : w_k_A} {f : Int32} {Ls : List w_q_L} (hA : w_k_Aok A) (H : w_k_CI s A) (h0 : t 0 1 = nI 0 ∧ t 0 3 = nI Ls.length ∧ t 0 6 = f ∧ t 0 11 = s 0 11)
    (hf : ∀ x, x ≠ 0 → x < 199 → ¬ w_k_sC x → ¬ (86 ≤ x ∧ x ≤ 117) → t x = s x) (hL : ∀ l L, Ls[l]? = some L → w_k_LR t (86 + 8 * l) L) : w_k_CI t (w_a_law0 A f Ls) := by
  obtain ⟨a1, a2, a3, a4, a5, a6⟩ := H
  obtain ⟨_, _, _, hV, hI, hIV⟩ := hA
  have hb := w_k_Vb hV
  refine ⟨⟨h0.1, h0.2.1, h0.2.2.1, by rw [h0.2.2.2]; exact a1.2.2.2⟩, fun j hj => absurd hj (Nat.not_lt_zero _), w_k_LR_cg (fun x h1 h2 => hf x (by omega) (by omega) (by unfold w_k_sC; omega) (by omega)) a3, hL, w_k_CV_cg a5 hb.1 hb.2.1 (fun x h1 h2 => hf x (by omega) (by omega) (by unfold w_k_sC; omega) (by omega)), fun m V hm => ?_⟩
  have hm3 := w_k_lt_of hm
  rw [List.length_reverse] at hm3
  have hm4 : m < A.2.2.2.2.length := hm3
  have hbv := w_k_Vb (hIV V (List.mem_reverse.1 (List.mem_of_getElem? hm)))
  exact w_k_CV_cg (a6 m V hm) hbv.1 hbv.2.1 (fun x h1 h2 => hf x (by omega) (by omega) (by unfold w_k_sC; omega) (by omega))
theorem w_k_f3_ne {x : Int32} (h : x = 1 ∨ x = 2 ∨ x = 3) : x ≠ 0 := by rcases h with e | e | e <;> (rw [e]; decide)
theorem w_c_lawop {s : g_S} {A : w_k_A} {n : Int32} (hA : w_k_Aok A) (H : w_k_CI s A) : w_k_cop s (f79 s n) (w_a_lawop A n).1 (w_a_lawop A n).2 := by
  have h500 := hA.1
  have h4 := hA.2.2.1
  unfold f79 w_a_lawop
  rw [w_e118, w_k_bs, H.1.1]
  by_cases hw : w_k_wi n 0 (nI A.1.1)
  · rw [w_k_ift hw, w_e116t, w_k_tbl, if_pos hw]
    obtain ⟨m, hm, rfl⟩ := w_k_iL A.1.1 hw rfl (by omega)
    have em : (nI m).toNatClampNeg = m := w_k_nat (by omega)
    rw [w_k_let, w_k_let, em]
    generalize ht : g_w (g_w s 0 1 0) 0 6 (-1) = t
    have ft : ∀ x b, ¬ (x = 0 ∧ (b = 1 ∨ b = 6)) → t x b = s x b := fun x b hx => by rw [← ht, w_k_wq (by omega), w_k_wq (by omega)]
    have fr : ∀ x, x ≠ 0 → t x = s x := fun x hx => funext fun b => ft x b (by omega)
    have t1 : t 0 1 = nI 0 := by rw [← ht, w_k_wq (by omega), w_k_wv]; rfl
    have t6 : t 0 6 = -1 := by rw [← ht, w_k_wv]
    have t3 : t 0 3 = nI A.2.2.1.length := by rw [ft 0 3 (by omega)]; exact H.1.2.1
    have lr : ∀ u : g_S, (∀ x, 86 ≤ x → x < 86 + 8 * A.2.2.1.length → u x = s x) → ∀ i L, A.2.2.1[i]? = some L → w_k_LR u (86 + 8 * i) L := fun u hu i L hL => by
      have := w_k_lt_of hL
      exact w_k_LR_cg (fun x q1 q2 => hu x (by omega) (by omega)) (H.2.2.2.1 i L hL)
    rw [t3]
    by_cases hl4 : A.2.2.1.length = 4
    · rw [if_pos hl4, hl4, if_neg (by decide)]
      refine w_ok_some ⟨rfl, w_k_CI_L hA H ⟨t1, t3, t6, ft 0 11 (by omega)⟩ (fun x h0 h1 h2 h3 => fr x h0) (lr t (fun x _ _ => fr x (by omega))), fun y hy => fr y (by omega)⟩
    · rw [if_neg hl4, if_pos (show nI A.2.2.1.length < 4 from (w_k_lt (b := 4) (by omega) (by omega)).2 (by omega)), if_pos ((w_k_inI (by omega)).2 (by omega)), w_k_nat (by omega)]
      obtain ⟨v, u, q1, q2, q3⟩ := w_e44 (s := t) (T := A.1.2) (n := m) (l := 86 + 8 * A.2.2.1.length) (fun j hj => by rw [fr 1 (by omega)]; exact H.2.1 j (by omega)) (by omega) (fun j hj => hA.2.1 j (by omega)) (by omega) (by omega) (te_5 (by omega))
      have fu : ∀ x, x ≠ 0 → x ≠ 11 → ¬ (86 + 8 * A.2.2.1.length ≤ x ∧ x ≤ 86 + 8 * A.2.2.1.length + 6) → u x = s x := fun x h0 h1 h2 => by rw [q2 x h1 (by omega), fr x h0]
      have u0 : u 0 = t 0 := q2 0 (by omega) (by omega)
      rw [q1, w_k_bd]
      cases hR : w_t_law A.1.2 m with
      | inl e =>
        rw [hR] at q3
        have hne := w_k_f3_ne (w_f3_law e hR)
        rw [q3.1, if_neg hne, w_k_let, q3.2]
        refine w_ok_some ⟨rfl, w_k_CI_L hA H ⟨?_, ?_, ?_, ?_⟩ (fun x h0 h1 h2 h3 => ?_) (lr _ (fun x h1 h2 => ?_)), fun y hy => ?_⟩
        · dsimp only; rw [w_k_wq (by omega), u0]; exact t1
        · dsimp only; rw [w_k_wq (by omega), u0]; exact t3
        · dsimp only; rw [w_k_wv]
        · dsimp only; rw [w_k_wq (by omega), u0, ft 0 11 (by omega)]
        · dsimp only; rw [w_k_wn h0, fu x h0 (fun e => h2 (by rw [e]; unfold w_k_sC; omega)) (by omega)]
        · dsimp only; rw [w_k_wn (by omega), fu x (by omega) (by omega) (by omega)]
        · dsimp only; rw [w_k_wn (by omega), fu y (by omega) (by omega) (by omega)]
      | inr L =>
        rw [hR] at q3
        rw [q3.1, if_pos rfl, w_k_let, u0, t3, w_k_s1, w_k_wv, w_k_m1]
        have hlen : (A.2.2.1 ++ [L]).length = A.2.2.1.length + 1 := by simp
        refine w_ok_some ⟨rfl, w_k_CI_L hA H ⟨?_, ?_, ?_, ?_⟩ (fun x h0 h1 h2 h3 => ?_) (fun i M hM => ?_), fun y hy => ?_⟩
        · dsimp only; rw [w_k_wq (by omega), u0]; exact t1
        · dsimp only; rw [w_k_wv, hlen]
        · dsimp only; rw [w_k_wq (by omega), u0]; exact t6
        · dsimp only; rw [w_k_wq (by omega), u0, ft 0 11 (by omega)]
        · dsimp only; rw [w_k_wn h0, fu x h0 (fun e => h2 (by rw [e]; unfold w_k_sC; omega)) (by omega)]
        · have hi := w_k_lt_of hM
          rw [hlen] at hi
          by_cases e : i = A.2.2.1.length
          · subst e
            rw [List.getElem?_append_right (Nat.le_refl _), Nat.sub_self] at hM
            cases hM
            exact w_k_LR_cg (fun x _ _ => w_k_wn (by omega)) q3.2
          · rw [List.getElem?_append_left (by omega)] at hM
            exact lr _ (fun x h1 h2 => by dsimp only; rw [w_k_wn (by omega), fu x (by omega) (by omega) (by omega)]) i M hM
        · dsimp only; rw [w_k_wn (by omega), fu y (by omega) (by omega) (by omega)]
  · rw [w_k_iff hw, w_e116f, if_neg hw]
    exact w_ok_some ⟨rfl, H, fun _ _ => rfl⟩
