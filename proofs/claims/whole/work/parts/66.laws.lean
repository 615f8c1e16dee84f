/-! the class's laws -/
theorem w_e42 (s : g_S) (x a b : Int32) : f42 s x a b = some (w_q_join x a b) := by
  unfold f42 w_q_join
  by_cases h38 : x = 38
  · subst h38; rfl
  by_cases h42 : x = 42
  · subst h42; rfl
  by_cases h43 : x = 43
  · subst h43; rfl
  by_cases h45 : x = 45
  · subst h45; rfl
  by_cases h47 : x = 47
  · subst h47
    show (if b = 0 then some 0 else if b = 0 then none else some (a / b)) = some (if b = 0 then 0 else a / b)
    by_cases hb : b = 0
    · rw [if_pos hb, if_pos hb]
    · rw [if_neg hb, if_neg hb, if_neg hb]
  by_cases h60 : x = 60
  · subst h60
    show (if a < b then some (1 : Int32) else some 0) = some (if a < b then 1 else 0)
    by_cases hb : a < b
    · rw [if_pos hb, if_pos hb]
    · rw [if_neg hb, if_neg hb]
  by_cases h61 : x = 61
  · subst h61
    show (if a = b then some (1 : Int32) else some 0) = some (if a = b then 1 else 0)
    by_cases hb : a = b
    · rw [if_pos hb, if_pos hb]
    · rw [if_neg hb, if_neg hb]
  by_cases h62 : x = 62
  · subst h62
    show (if b < a then some (1 : Int32) else some 0) = some (if b < a then 1 else 0)
    by_cases hb : b < a
    · rw [if_pos hb, if_pos hb]
    · rw [if_neg hb, if_neg hb]
  by_cases h108 : x = 108
  · subst h108; rfl
  by_cases h109 : x = 109
  · subst h109; rfl
  rw [if_neg h38, if_neg h42, if_neg h43, if_neg h45, if_neg h47, if_neg h60, if_neg h61, if_neg h62, if_neg h108, if_neg h109,
    if_neg h43, if_neg h45, if_neg h42, if_neg h47, if_neg h60, if_neg h62, if_neg h61, if_neg h108, if_neg h109, if_neg h38]
def w_k_St (f : Nat → Int32) : List Int32 → Prop
  | [] => True
  | a :: r => f r.length = a ∧ w_k_St f r
theorem w_k_St_up {f g : Nat → Int32} : ∀ {r : List Int32}, (∀ j, j < r.length → g j = f j) → w_k_St f r → w_k_St g r
  | [], _, _ => trivial
  | a :: r, h, H => ⟨by rw [h r.length (by simp)]; exact H.1, w_k_St_up (fun j hj => h j (by simp; omega)) H.2⟩
theorem w_q_step_len {nm : Nat → Int32} {st : List Int32} {x : Int32} (h : st.length ≤ 24) : (w_q_step nm st x).length ≤ 24 := by
  unfold w_q_step
  split
  · split
    · rw [List.length_cons]; omega
    · exact h
  · split
    · split
      · split
        · exact h
        · rw [List.length_cons] at h ⊢; exact h
      · split
        · rw [List.length_cons, List.length_cons] at h; rw [List.length_cons]; omega
        · exact h
    · split
      · rw [List.length_cons]; omega
      · exact h
section LW
variable {s : g_S} {l i p e : Nat}
theorem w_e41_24 {t : g_S} {n b : Nat} {x : Int32} (ht : ∀ y, y ≠ l + 7 → t y = s y) (hp : p ≠ l + 7) (hn : n ≤ 24) (hx : ¬ x < 0) (hx2 : x < 8 ∨ ¬ x < 256) :
    f41_24 t l (nI i) p (nI n) (nI b) x = some (if n < 24 then .inl (nI (n + 1), (nI (b + 1), g_w t (l + 7) n (if x < 8 then s p x.toNatClampNeg else x - 256))) else .inl (nI n, (nI (b + 1), t))) := by
  unfold f41_24
  by_cases h : n < 24
  · rw [if_pos (show nI n < 24 from (w_k_lt (b := 24) (by omega) (by omega)).2 h), if_pos h]
    by_cases h8 : x < 8
    · obtain ⟨c, hc, rfl⟩ := w_k_of hx
      have hc8 : c < 8 := (w_k_lt (b := 8) (by omega) (by omega)).1 h8
      rw [if_pos h8, if_pos h8, if_pos ((w_k_inI (by omega)).2 hc8)]
      unfold f41_40
      rw [if_pos ((w_k_inI (by omega)).2 h), w_k_nat (by omega), w_k_nat (by omega), ht p hp, w_k_let, w_k_s1, w_k_s1]
    · rw [if_neg h8, if_neg h8]
      unfold f41_40
      rw [if_pos ((w_k_inI (by omega)).2 h), w_k_nat (by omega), w_k_let, w_k_s1, w_k_s1]
  · rw [if_neg (show ¬ nI n < 24 from w_k_nlt (b := 24) (by omega) (by omega) h), if_neg h, w_k_s1]
theorem w_e41_7 (hi : i < 24) (hp : p ≠ l + 7) (he : e ≤ 500) (hE : s (l + 5) i = nI e) : ∀ (xs : List Int32) (b : Nat) (st : List Int32) (t : g_S), b + xs.length = e →
    (∀ j x, xs[j]? = some x → ¬ x < 0 ∧ s (l + 6) (b + j) = x) → st.length ≤ 24 → (∀ y, y ≠ l + 7 → t y = s y) → w_k_St (t (l + 7)) st →
    ∃ u, f41_7L t l (nI i) p (nI st.length) (nI b) = some (w_q_top (xs.foldl (w_q_step (s p)) st), u) ∧ ∀ y, y ≠ l + 7 → u y = s y
  | [], b, st, t, hb, hx, hst, ht, hS => by
    rw [f41_7L_eq]; unfold f41_7
    have hb' : b = e := by simpa using hb
    subst hb'
    rw [if_pos ((w_k_inI (by omega)).2 hi), w_k_nat (by omega), ht (l + 5) (by omega), hE, if_neg (w_k_nlt (by omega) (by omega) (by omega))]
    unfold f41_87
    cases st with
    | nil =>
      rw [if_neg (by decide)]
      exact ⟨t, rfl, ht⟩
    | cons a r =>
      rw [List.length_cons] at hst
      rw [List.length_cons, if_pos (show (0 : Int32) < nI (r.length + 1) from (w_k_lt (a := 0) (by omega) (by omega)).2 (by omega)), w_k_m1, if_pos ((w_k_inI (by omega)).2 (by omega)), w_k_nat (by omega), hS.1]
      exact ⟨t, rfl, ht⟩
  | x :: xs, b, st, t, hb, hx, hst, ht, hS => by
    rw [List.length_cons] at hb
    obtain ⟨hx0, hx1⟩ := hx 0 x rfl
    have hrec := fun st' t' (h1 : st'.length ≤ 24) (h2 : ∀ y, y ≠ l + 7 → t' y = s y) (h3 : w_k_St (t' (l + 7)) st') => w_e41_7 hi hp he hE xs (b + 1) st' t' (by omega) (fun j y hj => by have := hx (j + 1) y (by rw [List.getElem?_cons_succ]; exact hj); rw [show b + (j + 1) = b + 1 + j by omega] at this; exact this) h1 h2 h3
    rw [f41_7L_eq]; unfold f41_7
    replace hx1 : s (l + 6) b = x := hx1
    rw [if_pos ((w_k_inI (by omega)).2 hi), w_k_nat (by omega), ht (l + 5) (by omega), hE, if_pos ((w_k_lt (by omega) (by omega)).2 (by omega)), if_pos ((w_k_inI (by omega)).2 (by omega)), w_k_nat (by omega), ht (l + 6) (by omega), hx1]
    rw [List.foldl_cons]
    have hlen := w_q_step_len (nm := s p) (x := x) hst
    have push : (x < 8 ∨ ¬ x < 256) → ∃ u, g_st (f41_24 t l (nI i) p (nI st.length) (nI b) x) (fun S => f41_7L S.2.2 l (nI i) p S.1 S.2.1) = some (w_q_top (xs.foldl (w_q_step (s p)) (w_q_step (s p) st x)), u) ∧ ∀ y, y ≠ l + 7 → u y = s y := by
      intro h2
      rw [w_e41_24 (s := s) (l := l) ht hp hst hx0 h2]
      have hq : w_q_step (s p) st x = if st.length < 24 then (if x < 8 then s p x.toNatClampNeg else x - 256) :: st else st := by
        unfold w_q_step
        by_cases h8 : x < 8
        · rw [if_pos h8, if_pos h8]
        · rw [if_neg h8, if_neg h8, if_neg (h2.resolve_left h8)]
      rw [hq] at hlen ⊢
      by_cases hl : st.length < 24
      · rw [if_pos hl] at hlen ⊢
        rw [if_pos hl]
        exact hrec _ _ hlen (fun y hy => by dsimp only; rw [w_k_wn hy]; exact ht y hy) ⟨w_k_wv, w_k_St_up (fun j hj => w_k_wq (by omega)) hS⟩
      · rw [if_neg hl] at hlen ⊢
        rw [if_neg hl]
        exact hrec _ _ hlen ht hS
    by_cases h8 : x < 8
    · rw [if_pos h8]; exact push (Or.inl h8)
    · rw [if_neg h8]
      by_cases h256 : x < 256
      · rw [if_pos h256]
        by_cases h33 : x = 33
        · rw [if_pos h33]
          cases st with
          | nil =>
            rw [if_neg (by decide), w_k_s1]
            have hq : w_q_step (s p) [] x = [] := by unfold w_q_step; rw [if_neg h8, if_pos h256, if_pos h33]
            rw [hq]
            exact hrec [] t (by simp) ht trivial
          | cons a r =>
            rw [List.length_cons] at hst
            rw [List.length_cons, if_pos (show (0 : Int32) < nI (r.length + 1) from (w_k_lt (a := 0) (by omega) (by omega)).2 (by omega)), w_k_m1, if_pos ((w_k_inI (by omega)).2 (by omega)), w_k_nat (by omega), w_k_let, w_k_s1, hS.1]
            have hq : w_q_step (s p) (a :: r) x = (1 - a) :: r := by unfold w_q_step; rw [if_neg h8, if_pos h256, if_pos h33]
            rw [hq] at hlen ⊢
            exact hrec ((1 - a) :: r) _ hlen (fun y hy => by dsimp only; rw [w_k_wn hy]; exact ht y hy) ⟨w_k_wv, w_k_St_up (fun j hj => w_k_wq (by omega)) hS.2⟩
        · rw [if_neg h33]
          match st, hst, hS, hlen with
          | [], hst, hS, hlen =>
            rw [if_neg (by decide), w_k_s1]
            have hq : w_q_step (s p) [] x = [] := by unfold w_q_step; rw [if_neg h8, if_pos h256, if_neg h33]
            rw [hq]
            exact hrec [] t (by simp) ht trivial
          | [a], hst, hS, hlen =>
            rw [if_neg (show ¬ (1 : Int32) < nI [a].length from w_k_nlt (a := 1) (b := 1) (by omega) (by omega) (by omega)), w_k_s1]
            have hq : w_q_step (s p) [a] x = [a] := by unfold w_q_step; rw [if_neg h8, if_pos h256, if_neg h33]
            rw [hq]
            exact hrec [a] t (by simp) ht hS
          | c :: a :: r, hst, hS, hlen =>
            rw [List.length_cons, List.length_cons] at hst
            rw [List.length_cons, List.length_cons, if_pos (show (1 : Int32) < nI (r.length + 1 + 1) from (w_k_lt (a := 1) (by omega) (by omega)).2 (by omega)), w_k_p1, w_k_m1, if_pos ((w_k_inI (by omega)).2 (by omega)), if_pos ((w_k_inI (by omega)).2 (by omega)), w_k_nat (by omega), w_k_nat (by omega), w_e42, w_k_bs, w_k_let, w_k_s1]
            have hq : w_q_step (s p) (c :: a :: r) x = w_q_join x a c :: r := by unfold w_q_step; rw [if_neg h8, if_pos h256, if_neg h33]
            rw [hq] at hlen ⊢
            have w_e1 : t (l + 7) (r.length + 1) = c := hS.1
            rw [w_e1, hS.2.1]
            exact hrec (w_q_join x a c :: r) _ hlen (fun y hy => by dsimp only; rw [w_k_wn hy]; exact ht y hy) ⟨w_k_wv, w_k_St_up (fun j hj => w_k_wq (by omega)) hS.2.2⟩
      · rw [if_neg h256]; exact push (Or.inr h256)
theorem w_e41 {L : w_q_L} {c : w_q_C} (H : w_k_LR s l L) (hc : L.1[i]? = some c) (hp : p ≠ l + 7) : ∃ u, f41 s l (nI i) p = some (w_q_work (s p) c.2.2.2, u) ∧ ∀ y, y ≠ l + 7 → u y = s y := by
  obtain ⟨h0, h1, h2, h3⟩ := H
  obtain ⟨_, _, _, a, ha, g1, g2, g3⟩ := h3 i c hc
  have hi := w_k_lt_of hc
  unfold f41
  rw [if_pos ((w_k_inI (by omega)).2 (by omega)), w_k_nat (by omega), g1]
  exact w_e41_7 (by omega) hp (e := a + c.2.2.2.length) ha g2 c.2.2.2 a [] s rfl (fun j x hj => g3 j x hj) (by simp) (fun _ _ => rfl) trivial
theorem w_e39 {L : w_q_L} {c : w_q_C} {t k : Int32} (H : w_k_LR s l L) (hc : L.1[i]? = some c) : f39 s l (nI i) t k = some (w_q_b (w_q_is c t k)) := by
  obtain ⟨h0, h1, h2, h3⟩ := H
  obtain ⟨g0, g1, g2, _⟩ := h3 i c hc
  have hi := w_k_lt_of hc
  unfold f39 w_q_is w_q_bit w_q_b
  rw [if_pos ((w_k_inI (by omega)).2 (by omega)), w_k_nat (by omega), g0, g1]
  by_cases w_e1 : c.1 = t
  · rw [if_pos w_e1]
    by_cases w_e2 : ((c.2.1 >>> (k &&& 31)) &&& 1) = 1
    · rw [if_pos w_e2]; simp [w_e1, w_e2]
    · rw [if_neg w_e2]; simp [w_e2]
  · rw [if_neg w_e1]; simp [w_e1]
theorem w_e40 {x k : Int32} : f40 s x k = some (w_q_b (w_q_bit x k)) := by
  unfold f40 w_q_bit w_q_b
  by_cases w_e2 : ((x >>> (k &&& 31)) &&& 1) = 1
  · rw [if_pos w_e2]; simp [w_e2]
  · rw [if_neg w_e2]; simp [w_e2]
end LW
theorem w_q_b0 {b : Bool} : (w_q_b b = 0) ↔ b = false := by cases b <;> decide
theorem w_k_LR_7 {s t : g_S} {l : Nat} {L : w_q_L} (h : ∀ y, y ≠ l + 7 → t y = s y) (H : w_k_LR s l L) : w_k_LR t l L := w_k_LR_cg (fun x h1 h2 => h x (by omega)) H
theorem w_e34_2 {s : g_S} {l p : Nat} {L : w_q_L} {t k h : Int32} (H : w_k_LR s l L) (hp : p ≠ l + 7) : ∀ (cs : List w_q_C) (i : Nat) (x : g_S), i + cs.length = L.1.length → (∀ j c, cs[j]? = some c → L.1[i + j]? = some c) → (∀ y, y ≠ l + 7 → x y = s y) →
    ∃ u, f34_2L x l t k h p (nI i) = some (w_q_b (cs.any fun c => w_q_hold1 c t k h (s p)), u) ∧ ∀ y, y ≠ l + 7 → u y = s y
  | [], i, x, hi, hc, hx => by
    have hl := H.2.2.1
    rw [f34_2L_eq]; unfold f34_2
    rw [hx l (by omega), H.2.1, if_neg (w_k_nlt (by omega) (by omega) (by simp at hi; omega))]
    exact ⟨x, rfl, hx⟩
  | c :: cs, i, x, hi, hc, hx => by
    have hl := H.2.2.1
    rw [List.length_cons] at hi
    have hci : L.1[i]? = some c := hc 0 c rfl
    have hrec := fun y (hy : ∀ z, z ≠ l + 7 → y z = s z) => w_e34_2 (t := t) (k := k) (h := h) H hp cs (i + 1) y (by omega) (fun j d hj => by have := hc (j + 1) d (by rw [List.getElem?_cons_succ]; exact hj); rw [show i + (j + 1) = i + 1 + j by omega] at this; exact this) hy
    have HX := w_k_LR_7 hx H
    rw [f34_2L_eq]; unfold f34_2
    rw [hx l (by omega), H.2.1, if_pos ((w_k_lt (by omega) (by omega)).2 (by omega)), w_e39 HX hci, w_k_bs, w_k_s1, if_pos ((w_k_inI (by omega)).2 (by omega)), w_k_nat (by omega), w_e40, w_k_bs, List.any_cons]
    obtain ⟨g0, g1, g2, a, ha, g3, g4, g5⟩ := HX.2.2.2 i c hci
    rw [g2, g3, g4]
    unfold w_q_hold1
    cases w_e1 : w_q_is c t k with
    | false =>
      rw [if_pos (w_q_b0.2 rfl)]
      exact hrec x hx
    | true =>
      rw [if_neg (by decide)]
      cases w_e2 : w_q_bit c.2.2.1 h with
      | false =>
        rw [if_pos (w_q_b0.2 rfl)]
        exact hrec x hx
      | true =>
        rw [if_neg (by decide)]
        by_cases w_e3 : c.2.2.2 = []
        · rw [if_pos (by rw [w_e3]; rfl)]
          refine ⟨x, ?_, hx⟩
          rw [w_e3]; rfl
        · have hne : c.2.2.2.length ≠ 0 := fun e => w_e3 (List.length_eq_zero_iff.1 e)
          rw [if_neg (fun e => hne (by have := (w_k_eq (by omega) (by omega)).1 e; omega))]
          obtain ⟨u, q1, q2⟩ := w_e41 HX hci hp
          have hemp : c.2.2.2.isEmpty = false := by cases hh : c.2.2.2 with | nil => exact absurd hh w_e3 | cons _ _ => rfl
          rw [q1, w_k_bd, hx p hp, hemp]
          have hu : ∀ y, y ≠ l + 7 → u y = s y := fun y hy => by rw [q2 y hy, hx y hy]
          by_cases w_e4 : w_q_work (s p) c.2.2.2 = 0
          · rw [if_pos w_e4]
            simp only [w_e4, decide_true, Bool.not_true, Bool.or_false, Bool.and_false, Bool.false_or]
            exact hrec u hu
          · rw [if_neg w_e4]
            refine ⟨u, ?_, hu⟩
            simp [w_e4]; rfl
theorem w_e34 {s : g_S} {l p : Nat} {L : w_q_L} {t k h : Int32} (H : w_k_LR s l L) (hp : p ≠ l + 7) : ∃ u, f34 s l t k h p = some (w_q_b (w_q_holds L t k h (s p)), u) ∧ ∀ y, y ≠ l + 7 → u y = s y := by
  unfold f34 w_q_holds
  exact w_e34_2 H hp L.1 0 s (by omega) (fun j c hj => by rw [Nat.zero_add]; exact hj) (fun _ _ => rfl)
theorem w_e35_5 {s : g_S} {l p : Nat} {L : w_q_L} {k : Int32} (H : w_k_LR s l L) (hp : p ≠ l + 7) : ∀ (n : Nat), n ≤ L.1.length →
    ∃ u, f35_5L s l k p (nI n - 1) = some (w_q_owes (L.1.take n).reverse k (s p), u) ∧ ∀ y, y ≠ l + 7 → u y = s y
  | 0, hn => by
    rw [f35_5L_eq]; unfold f35_5
    rw [if_pos (by decide)]
    exact ⟨s, rfl, fun _ _ => rfl⟩
  | n + 1, hn => by
    have hl := H.2.2.1
    have hc : L.1[n]? = some (L.1[n]'(by omega)) := List.getElem?_eq_getElem _
    generalize L.1[n]'(by omega) = c at hc
    have ht : (L.1.take (n + 1)).reverse = c :: (L.1.take n).reverse := by
      rw [List.take_add_one, hc, Option.toList_some, List.reverse_append]; rfl
    rw [f35_5L_eq]; unfold f35_5
    rw [w_k_m1, if_neg (show ¬ nI n < 0 from w_k_nlt (b := 0) (by omega) (by omega) (by omega)), w_e39 H hc, w_k_bs, ht]
    unfold w_q_owes
    cases w_e1 : w_q_is c 2 k with
    | false =>
      rw [if_pos (w_q_b0.2 rfl), if_neg (by decide)]
      have hr := w_e35_5 (k := k) H hp n (by omega)
      have hm : nI n + (-1) = nI n - 1 := by rw [Int32.sub_eq_add_neg]
      rw [hm]
      exact hr
    | true =>
      rw [if_neg (by decide), if_pos rfl]
      unfold f35_13
      obtain ⟨u, q1, q2⟩ := w_e41 H hc hp
      rw [q1, w_k_bd]
      exact ⟨u, rfl, q2⟩
theorem w_e35 {s : g_S} {l p : Nat} {L : w_q_L} {k : Int32} (H : w_k_LR s l L) (hp : p ≠ l + 7) : ∃ u, f35 s l k p = some (w_q_owed L k (s p), u) ∧ ∀ y, y ≠ l + 7 → u y = s y := by
  unfold f35 w_q_owed
  rw [H.2.1]
  have := w_e35_5 (k := k) H hp L.1.length (Nat.le_refl _)
  rw [List.take_length] at this
  exact this
theorem w_e37_2 {s : g_S} {l : Nat} {L : w_q_L} {k h : Int32} (H : w_k_LR s l L) : ∀ (cs : List w_q_C) (i : Nat), i + cs.length = L.1.length → (∀ j c, cs[j]? = some c → L.1[i + j]? = some c) →
    f37_2L s l k h (nI i) = some (w_q_b (cs.any fun c => w_q_is c 3 k && w_q_bit c.2.2.1 h))
  | [], i, hi, hc => by
    have hl := H.2.2.1
    rw [f37_2L_eq]; unfold f37_2
    rw [H.2.1, if_neg (w_k_nlt (by omega) (by omega) (by simp at hi; omega))]
    rfl
  | c :: cs, i, hi, hc => by
    have hl := H.2.2.1
    rw [List.length_cons] at hi
    have hci : L.1[i]? = some c := hc 0 c rfl
    have hrec := w_e37_2 (k := k) (h := h) H cs (i + 1) (by omega) (fun j d hj => by have := hc (j + 1) d (by rw [List.getElem?_cons_succ]; exact hj); rw [show i + (j + 1) = i + 1 + j by omega] at this; exact this)
    rw [f37_2L_eq]; unfold f37_2
    obtain ⟨g0, g1, g2, _⟩ := H.2.2.2 i c hci
    rw [H.2.1, if_pos ((w_k_lt (by omega) (by omega)).2 (by omega)), w_e39 H hci, w_k_bs, w_k_s1, if_pos ((w_k_inI (by omega)).2 (by omega)), w_k_nat (by omega), w_e40, w_k_bs, List.any_cons, g2]
    cases w_e1 : w_q_is c 3 k with
    | false => rw [if_pos (w_q_b0.2 rfl)]; exact hrec
    | true =>
      rw [if_neg (by decide)]
      cases w_e2 : w_q_bit c.2.2.1 h with
      | false => rw [if_pos (w_q_b0.2 rfl)]; exact hrec
      | true => rw [if_neg (by decide)]; rfl
theorem w_e37 {s : g_S} {l : Nat} {L : w_q_L} {k h : Int32} (H : w_k_LR s l L) : f37 s l k h = some (w_q_b (w_q_lets L k h)) := by
  unfold f37 w_q_lets
  exact w_e37_2 H L.1 0 (by omega) (fun j c hj => by rw [Nat.zero_add]; exact hj)
theorem w_e38_2 {s : g_S} {l : Nat} {L : w_q_L} {k : Int32} (H : w_k_LR s l L) : ∀ (cs : List w_q_C) (i : Nat), i + cs.length = L.1.length → (∀ j c, cs[j]? = some c → L.1[i + j]? = some c) →
    f38_2L s l k (nI i) = some (w_q_b (cs.any fun c => w_q_is c 4 k))
  | [], i, hi, hc => by
    have hl := H.2.2.1
    rw [f38_2L_eq]; unfold f38_2
    rw [H.2.1, if_neg (w_k_nlt (by omega) (by omega) (by simp at hi; omega))]
    rfl
  | c :: cs, i, hi, hc => by
    have hl := H.2.2.1
    rw [List.length_cons] at hi
    have hci : L.1[i]? = some c := hc 0 c rfl
    have hrec := w_e38_2 (k := k) H cs (i + 1) (by omega) (fun j d hj => by have := hc (j + 1) d (by rw [List.getElem?_cons_succ]; exact hj); rw [show i + (j + 1) = i + 1 + j by omega] at this; exact this)
    rw [f38_2L_eq]; unfold f38_2
    rw [H.2.1, if_pos ((w_k_lt (by omega) (by omega)).2 (by omega)), w_e39 H hci, w_k_bs, w_k_s1, List.any_cons]
    cases w_e1 : w_q_is c 4 k with
    | false => rw [if_pos (w_q_b0.2 rfl)]; exact hrec
    | true => rw [if_neg (by decide)]; rfl
theorem w_e38 {s : g_S} {l : Nat} {L : w_q_L} {k : Int32} (H : w_k_LR s l L) : f38 s l k = some (w_q_b (w_q_twice L k)) := by
  unfold f38 w_q_twice
  exact w_e38_2 H L.1 0 (by omega) (fun j c hj => by rw [Nat.zero_add]; exact hj)
