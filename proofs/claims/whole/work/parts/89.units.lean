/-! the walks' units -/
section WU
variable {T : Nat → Int32} {n d : Nat} {F : g_S → Option (Int32 × g_S)} {φ : Nat → Nat → w_t_R}
theorem w_t_isw_u {p : Nat} {ws vs : List Nat} (hw : ∀ x ∈ ws, x ≤ 26) (hv : ∀ x ∈ vs, x ≤ 26) (e : w_t_isw T n p ws = true) (g : w_t_isw T n p vs = true) : ws = vs := by
  have e := w_t_isw_iff.1 e
  have g := w_t_isw_iff.1 g
  have hl : ws.length = vs.length := by omega
  apply List.ext_getElem hl
  intro i h1 h2
  have a1 := e.2 i h1
  rw [g.2 i h2] at a1
  rw [List.getD_eq_getElem?_getD, List.getD_eq_getElem?_getD, List.getElem?_eq_getElem h1, List.getElem?_eq_getElem h2] at a1
  have b1 := hw _ (List.getElem_mem h1)
  have b2 := hv _ (List.getElem_mem h2)
  have a1 := (w_k_eq (show vs[i] + 96 < 2147483648 by omega) (show ws[i] + 96 < 2147483648 by omega)).1 a1
  omega
theorem w_t_fi_ex {p : Nat} : ∀ (L : List (List Nat)) (i : Nat), w_t_fi T n p L i ≠ -1 → ∃ ws ∈ L, w_t_isw T n p ws = true
  | [], _, h => absurd rfl h
  | ws :: r, i, h => by
    unfold w_t_fi at h
    cases e : w_t_isw T n p ws with
    | true => exact ⟨ws, by simp, e⟩
    | false =>
      rw [e, if_neg (by decide)] at h
      obtain ⟨vs, h1, h2⟩ := w_t_fi_ex r (i + 1) h
      exact ⟨vs, by simp [h1], h2⟩
theorem w_t_wds26 : ∀ k, k < 11 → ∀ ws ∈ w_t_wds k, ∀ x ∈ ws, x ≤ 26 := by decide
theorem w_t_wds_disj : ∀ ws ∈ w_t_wds 9, ∀ vs ∈ w_t_wds 10, ws ≠ vs := by decide
theorem w_t_wof_x {p : Nat} (hp : p ≤ n) (hB : ∀ j, j < n → w_k_wi (T j) 0 255) (h1 : ¬ w_t_wof T n p 9 = -1) : w_t_wof T n p 10 = -1 := by
  apply Classical.byContradiction
  intro h2
  rw [w_t_wof_fi hp hB (by decide)] at h1 h2
  obtain ⟨ws, a1, a2⟩ := w_t_fi_ex _ _ h1
  obtain ⟨vs, b1, b2⟩ := w_t_fi_ex _ _ h2
  exact w_t_wds_disj ws a1 vs b1 (w_t_isw_u (w_t_wds26 9 (by decide) ws a1) (w_t_wds26 10 (by decide) vs b1) a2 b2)
theorem w_w_98 {s0 s : g_S} {o q p0 m : Nat} {xs : List Int32} {x : Int32} (H : w_w_U T n (o + 1) q s) (h0 : w_w_4 s0 s) (hp : p0 ≤ q) (hx : w_w_pu (s0 207) m xs x) : w_OK (f151_98 F s x) (w_k_WR 0 w_k_PT T n m o p0 s0 (w_t_sign T n 41 q xs)) := by
  have hq := w_w_Up H
  obtain ⟨u, r1, r2, r3⟩ := w_w_148 H w_sg41
  unfold f151_98 w_t_sign
  rw [r1, w_k_bs, w_k_let]
  rcases r3 with ⟨h, r3⟩ | ⟨h, r3⟩
  · rw [if_pos h]
    have := w_t_nx_le (T := T) hq.1
    obtain ⟨g1, g2⟩ := w_w_n5 (o' := o) (v := u 199 5 - 1) r3 (by rw [r3.2.2.1.1, w_k_m1])
    exact ⟨_, rfl, trivial, w_w_4t h0 (w_w_4t r2 g2), g1, by omega, hx⟩
  · rw [if_neg h]
    obtain ⟨g1, g2⟩ := w_x_n5 (v := u 199 5 - 1) r3
    exact ⟨_, rfl, trivial, w_w_4t h0 (w_w_4t r2 g2), g1⟩
theorem w_x_98 {s : g_S} {e : Int32 × Nat} {x : Int32} (H : w_w_X d T n e s) : w_OK (f151_98 F s x) fun w => w_k_PT w.1 ∧ w_w_4 s w.2 ∧ w_w_X d T n e w.2 := by
  obtain ⟨u, r1, r2, r3⟩ := w_x_148 (c := 41) H (by decide)
  obtain ⟨g1, g2⟩ := w_x_n5 (v := u 199 5 - 1) r3
  unfold f151_98
  rw [r1, w_k_bs, w_k_let]
  exact ⟨_, rfl, trivial, w_w_4t r2 g2, g1⟩
theorem w_k_93 {s : g_S} {x v y z : Int32} : f151_93 F s x v y z = f151_98 F s (if y = z then v else x) := by
  unfold f151_93 f151_97; split <;> rfl
theorem w_k_80 {s4 : g_S} {x v : Int32} {b : Bool} : (if v < x then f151_93 F s4 x v (w_q_b b) 1 else f151_93 F s4 x v (w_q_b b) 0) = f151_98 F s4 (w_q_join (if b = true then 108 else 109) x v) := by
  rw [w_k_93, w_k_93]
  cases b with
  | true =>
    rw [show w_q_join (if true = true then 108 else 109) x v = g_min x v from rfl]
    unfold g_min
    by_cases h : v < x
    · rw [if_pos h, if_pos (show w_q_b true = 1 from rfl), if_pos h]
    · rw [if_neg h, if_neg (show ¬ w_q_b true = 0 by decide), if_neg h]
  | false =>
    rw [show w_q_join (if false = true then 108 else 109) x v = g_max x v from rfl]
    unfold g_max
    by_cases h : v < x
    · rw [if_pos h, if_neg (show ¬ w_q_b false = 1 by decide)]
      split
      · rename_i g
        rw [Int32.lt_iff_toInt_lt] at h g
        omega
      · rfl
    · rw [if_neg h, if_pos (show w_q_b false = 0 from rfl)]
      split
      · rfl
      · rename_i g
        rw [Int32.lt_iff_toInt_lt] at h g
        rw [show v = x from Int32.toInt_inj.1 (by omega)]
theorem w_x_80b (hX : w_k_WX w_k_PT T n (f153 F)) {s : g_S} {e : Int32 × Nat} {x : Int32} {b : Bool} (H : w_w_X d T n e s) : w_OK (g_bd (f153 F s) fun v3 s4 => if v3 < x then f151_93 F s4 x v3 (w_q_b b) 1 else f151_93 F s4 x v3 (w_q_b b) 0) fun w => w_k_PT w.1 ∧ w_w_4 s w.2 ∧ w_w_X d T n e w.2 := by
  obtain ⟨⟨v, s4⟩, w1, w2, w3, w4⟩ := hX _ e s H
  rw [w1, w_k_bd, w_k_80]
  obtain ⟨w, z1, z2, z3, z4⟩ := w_x_98 (F := F) (x := w_q_join (if b = true then 108 else 109) x v) w4
  exact ⟨w, z1, z2, w_w_4t w3 z3, z4⟩
theorem w_x_80 (hX : w_k_WX w_k_PT T n (f153 F)) {s : g_S} {e : Int32 × Nat} {x : Int32} {b : Bool} (H : w_w_X d T n e s) : w_OK (f151_80 F s (w_q_b b) x) fun w => w_k_PT w.1 ∧ w_w_4 s w.2 ∧ w_w_X d T n e w.2 := by
  obtain ⟨u, r1, r2, r3⟩ := w_x_148 (c := 44) H (by decide)
  unfold f151_80
  rw [r1, w_k_bs]
  obtain ⟨w, z1, z2, z3, z4⟩ := w_x_80b (x := x) (b := b) hX r3
  exact ⟨w, z1, z2, w_w_4t r2 z3, z4⟩
theorem w_w_80 {s0 s : g_S} {o q p0 m : Nat} {xs : List Int32} {x : Int32} {b : Bool} (hE : w_k_WS 0 w_k_PT T n (m + 1) (o + 1) (f153 F) (w_t_sum T n φ)) (hX : w_k_WX w_k_PT T n (f153 F)) (H : w_w_U T n (o + 1) q s) (h0 : w_w_4 s0 s) (hp : p0 ≤ q) (hx : w_w_pu (s0 207) m xs x) :
    w_OK (f151_80 F s (w_q_b b) x) (w_k_WR 0 w_k_PT T n m o p0 s0 (if w_t_kd T n q = 44 then (match w_t_sum T n φ (w_t_nx T n q) (o + 1) with
    | .inl e => .inl e
    | .inr (r, ys) => w_t_sign T n 41 r (xs ++ (ys ++ [if b = true then 108 else 109]))) else .inl (1, q))) := by
  have hq := w_w_Up H
  obtain ⟨u, r1, r2, r3⟩ := w_w_148 H w_sg44
  unfold f151_80
  rw [r1, w_k_bs]
  rcases r3 with ⟨h, r3⟩ | ⟨h, r3⟩
  · rw [if_pos h]
    have := w_t_nx_le (T := T) hq.1
    obtain ⟨⟨v, s4⟩, w1, w2, w3, w4⟩ := hE _ u r3
    rw [w1, w_k_bd, w_k_80]
    cases hφ : w_t_sum T n φ (w_t_nx T n q) (o + 1) with
    | inl e =>
      rw [hφ] at w4
      obtain ⟨w, z1, z2, z3, z4⟩ := w_x_98 (F := F) (x := w_q_join (if b = true then 108 else 109) x v) w4
      exact ⟨w, z1, z2, w_w_4t h0 (w_w_4t r2 (w_w_4t w3 z3)), z4⟩
    | inr qy =>
      obtain ⟨r, ys⟩ := qy
      rw [hφ] at w4
      obtain ⟨w5, hqr, w6⟩ := w4
      have w_e1 : u 207 = s0 207 := w_w_207 (w_w_4t h0 r2)
      refine w_w_98 w5 (w_w_4t h0 (w_w_4t r2 w3)) (by omega) ?_
      intro st hst2
      rw [List.foldl_append, List.foldl_append, hx st hst2, ← w_e1, w6 (x :: st) (by simp only [List.length_cons]; omega)]
      show w_q_step (u 207) (v :: x :: st) _ = _
      cases b <;> exact w_q_op _ _ _ _ (by decide) (by decide) (by decide)
  · rw [if_neg h]
    obtain ⟨w, z1, z2, z3, z4⟩ := w_x_80b (x := x) (b := b) hX r3
    exact ⟨w, z1, z2, w_w_4t h0 (w_w_4t r2 z3), z4⟩
theorem w_t_fi_lt {p : Nat} : ∀ (L : List (List Nat)) (i : Nat), w_t_fi T n p L i ≠ -1 → ∃ k, k < i + L.length ∧ w_t_fi T n p L i = nI k
  | [], _, h => absurd rfl h
  | ws :: r, i, h => by
    unfold w_t_fi at h ⊢
    rw [List.length_cons]
    cases e : w_t_isw T n p ws with
    | true => rw [if_pos rfl]; exact ⟨i, by omega, rfl⟩
    | false =>
      rw [e, if_neg (by decide)] at h
      rw [if_neg (by decide)]
      obtain ⟨k, h1, h2⟩ := w_t_fi_lt r (i + 1) h
      exact ⟨k, by omega, h2⟩
theorem w_w_55 {s0 s : g_S} {o p p0 m : Nat} {b1 b2 : Bool} (ho : o ≤ 6) (hE : o < 6 → w_k_WS 0 w_k_PT T n (m + 1) (o + 1) (f153 F) (w_t_sum T n φ)) (hX : w_k_WX w_k_PT T n (f153 F)) (H : w_w_U T n o p s) (h0 : w_w_4 s0 s) (hp0 : p0 ≤ p) :
    w_OK (f151_55 F s (w_q_b b1) (w_q_b b2)) (w_k_WR 0 w_k_PT T n m o p0 s0 (if b1 = false ∧ b2 = false then (if w_t_kd T n p = 40 then w_t_par T n φ p o else .inl (1, p)) else w_t_cho T n φ (if b1 = true then 108 else 109) p o)) := by
  obtain ⟨t, q1, q2, q3, q4⟩ := w_w_139 H
  have hp := w_w_Up H
  have hxp := w_t_nx_le (T := T) hp.1
  unfold f151_55
  rw [q1, w_k_bs, w_w_138 q2 q3, w_k_bs]
  by_cases h : w_t_kd T n p = 40
  · rw [if_pos ((w_w_B w_sg40).2 h)]
    obtain ⟨u, r1, r2, r3⟩ := w_w_149 (k := 1) q2 q3 (w_t_te_B w_sg40.1 w_sg40.2.1 w_sg40.2.2.2.2.1 w_sg40.2.2.1 w_sg40.2.2.2.1 h).1 ho
    rw [show f149 t 1 = some u from r1, w_k_bs]
    have h4 : w_w_4 s0 u := w_w_4t h0 (w_w_4t (w_w_a4 q4) r2)
    rcases r3 with ⟨ho6, r3⟩ | ⟨ho6, r3⟩
    · obtain ⟨⟨v, s4⟩, w1, w2, w3, w4⟩ := hE ho6 _ u r3
      have w_e1 : u 207 = s0 207 := w_w_207 h4
      rw [w1, w_k_bd]
      by_cases hb : b1 = false ∧ b2 = false
      · rw [if_pos hb, if_pos h, hb.1, hb.2, if_pos (show w_q_b false = 0 from rfl), if_pos (show w_q_b false = 0 from rfl)]
        unfold w_t_par
        rw [if_pos ho6]
        cases hφ : w_t_sum T n φ (w_t_nx T n p) (o + 1) with
        | inl e =>
          rw [hφ] at w4
          obtain ⟨w, z1, z2, z3, z4⟩ := w_x_98 (F := F) (x := v) w4
          exact ⟨w, z1, z2, w_w_4t h4 (w_w_4t w3 z3), z4⟩
        | inr qy =>
          obtain ⟨r, ys⟩ := qy
          rw [hφ] at w4
          obtain ⟨w5, hqr, w6⟩ := w4
          exact w_w_98 w5 (w_w_4t h4 w3) (by omega) (fun st hst => by rw [← w_e1]; exact w6 st (by omega))
      · rw [if_neg hb]
        have eb : (if w_q_b b1 = 0 then (if w_q_b b2 = 0 then f151_98 F s4 v else f151_80 F s4 (w_q_b b1) v) else f151_80 F s4 (w_q_b b1) v) = f151_80 F s4 (w_q_b b1) v := by
          cases b1 with
          | true => rfl
          | false => cases b2 with
            | true => rfl
            | false => exact absurd ⟨rfl, rfl⟩ hb
        rw [eb]
        unfold w_t_cho
        rw [if_pos h, if_pos ho6]
        cases hφ : w_t_sum T n φ (w_t_nx T n p) (o + 1) with
        | inl e =>
          rw [hφ] at w4
          obtain ⟨w, z1, z2, z3, z4⟩ := w_x_80 (b := b1) (x := v) hX w4
          exact ⟨w, z1, z2, w_w_4t h4 (w_w_4t w3 z3), z4⟩
        | inr qy =>
          obtain ⟨r, ys⟩ := qy
          rw [hφ] at w4
          obtain ⟨w5, hqr, w6⟩ := w4
          exact w_w_80 (hE ho6) hX w5 (w_w_4t h4 w3) (by omega) (fun st hst => by rw [← w_e1]; exact w6 st (by omega))
    · obtain ⟨⟨v, s4⟩, w1, w2, w3, w4⟩ := hX _ _ u r3
      rw [w1, w_k_bd]
      have eR : (if b1 = false ∧ b2 = false then (if w_t_kd T n p = 40 then w_t_par T n φ p o else .inl (1, p)) else w_t_cho T n φ (if b1 = true then 108 else 109) p o) = .inl (3, p) := by
        unfold w_t_par w_t_cho
        rw [if_pos h, if_pos h, if_neg ho6, if_neg ho6]
        split <;> rfl
      rw [eR]
      have x1 := w_x_98 (F := F) (x := v) w4
      have x2 := w_x_80 (b := b1) (x := v) hX w4
      have key : ∀ y, w_OK y (fun w => w_k_PT w.1 ∧ w_w_4 s4 w.2 ∧ w_w_X 0 T n (3, p) w.2) → w_OK y (w_k_WR 0 w_k_PT T n m o p0 s0 (.inl (3, p))) := by
        rintro y ⟨w, z1, z2, z3, z4⟩
        exact ⟨w, z1, z2, w_w_4t h4 (w_w_4t w3 z3), z4⟩
      apply key
      split
      · split
        · exact x1
        · exact x2
      · exact x2
  · rw [if_neg (fun g => h ((w_w_B w_sg40).1 g))]
    have eR : (if b1 = false ∧ b2 = false then (if w_t_kd T n p = 40 then w_t_par T n φ p o else .inl (1, p)) else w_t_cho T n φ (if b1 = true then 108 else 109) p o) = .inl (1, p) := by
      unfold w_t_cho
      rw [if_neg h, if_neg h]
      split <;> rfl
    rw [eR]
    obtain ⟨u, r1, r2, r3, _⟩ := w_w_140 (f := 1) q2 (by decide) q3
    rw [r1, w_k_bs]
    exact ⟨_, rfl, trivial, w_w_4t h0 (w_w_4t (w_w_a4 q4) r3), r2⟩
theorem w_t_40 {p : Nat} (h : w_t_kd T n p = 40) (k : Nat) : w_t_wof T n p k = -1 := by unfold w_t_wof; rw [if_neg]; rw [h]; decide
theorem w_w_unit {m o : Nat} (ho : o ≤ 6) (hm : m ≤ 23) (hE : o < 6 → w_k_WS 0 w_k_PT T n (m + 1) (o + 1) (f153 F) (w_t_sum T n φ)) (hX : w_k_WX w_k_PT T n (f153 F)) : w_k_WS 0 w_k_PT T n m o (f151 F) (w_t_unit T n φ) := by
  intro p s H
  obtain ⟨t, q1, q2, q3, q4⟩ := w_w_139 H
  have hp := w_w_Up H
  have hn := H.1.1
  have hB := H.1.2.1
  have hxp := w_t_nx_le (T := T) hp.1
  unfold f151
  rw [if_pos H.2.1, q1, w_k_bs, w_w_138 q2 q3, w_k_bs, w_w_141, w_k_bs]
  unfold w_t_unit
  by_cases hd : w_t_kd T n p = 257
  · have hd' : w_t_dig (w_t_B T n p) = true := by
      have := w_t_kd_d hB hd
      exact w_t_B_dig.2 ⟨this.1, this.2.1⟩
    rw [hd', if_neg (show ¬ w_q_b true = 0 by decide), if_neg (show ¬ w_t_kd T n p = 40 by rw [hd]; decide), if_pos hd]
    obtain ⟨⟨v, u⟩, r1, r2, r3⟩ := w_w_142 (lo := 0) (hi := 9999) (by omega) (by omega) q2
    rw [show f142 t 0 9999 = some (v, u) from r1, w_k_bd]
    rcases r3 with ⟨_, g1, g2, g3⟩ | ⟨_, g1, g2⟩ | ⟨g1, _⟩
    · have g1' : ¬ (w_t_num T n p < 0 ∨ 9999 < w_t_num T n p) := fun g => g.elim g1.1 g1.2
      rw [if_neg g1']
      refine ⟨_, rfl, trivial, w_w_4t (w_w_a4 q4) r2, g3, hxp.1, ?_⟩
      intro st hst
      have g2 : v = w_t_num T n p := g2
      rw [g2]
      obtain ⟨k, _, hk, e⟩ := w_k_iI (a := 0) (b := 9999) (by omega) g1 (by omega)
      rw [e]
      show w_q_step (s 207) st (256 + nI k) = _
      have w_e2 : (256 : Int32) + nI k = nI (256 + k) := w_k_add 256 k
      rw [w_e2]
      unfold w_q_step
      rw [if_neg (show ¬ nI (256 + k) < 8 from w_k_nlt (b := 8) (by omega) (by omega) (by omega)), if_neg (show ¬ nI (256 + k) < 256 from w_k_nlt (b := 256) (by omega) (by omega) (by omega)), if_pos (by omega), ← w_e2]
      congr 1
      grind
    · have g1' : w_t_num T n p < 0 ∨ 9999 < w_t_num T n p := by
        apply Classical.byContradiction
        intro g
        exact g1 ⟨fun a => g (Or.inl a), fun a => g (Or.inr a)⟩
      rw [if_pos g1']
      exact ⟨_, rfl, trivial, w_w_4t (w_w_a4 q4) r2, g2⟩
    · exact absurd hd g1
  · have hd' : w_t_dig (w_t_B T n p) = false := Bool.eq_false_iff.2 fun g => hd (w_t_dig_kd (w_t_B_dig.1 g))
    rw [hd', if_pos (show w_q_b false = 0 from rfl), if_neg hd]
    obtain ⟨u, r1, r2, r3⟩ := w_e150 q2.1 hp.1 q3 hp.2
    rw [r1, w_k_bd, ← w_t_wof_fi hp.1 hB (by decide)]
    have hu : w_w_U T n o p u := w_w_Ua q2 r3 r2 hp.1 hp.2
    by_cases h10 : w_t_wof T n p 10 = -1
    · rw [if_pos h10, if_pos h10]
      obtain ⟨u1, a1, a2, a3⟩ := w_e146 (ws := [12, 5, 1, 19, 20]) (p1 := 12) (p2 := 5) (p3 := 1) (p4 := 19) (p5 := 20) (p6 := 0) hu.1 hp.1 r2 hp.2 (by decide) (fun _ => rfl)
      have hu1 : w_w_U T n o p u1 := w_w_Ua hu a3 a2 hp.1 hp.2
      obtain ⟨u2, b1, b2, b3⟩ := w_e146 (ws := [13, 15, 19, 20]) (p1 := 13) (p2 := 15) (p3 := 19) (p4 := 20) (p5 := 0) (p6 := 0) hu1.1 hp.1 a2 hp.2 (by decide) (fun _ => rfl)
      have hu2 : w_w_U T n o p u2 := w_w_Ua hu1 b3 b2 hp.1 hp.2
      have h4 : w_w_4 s u2 := w_w_4t (w_w_a4 q4) (w_w_4t (w_w_a4 r3) (w_w_4t (w_w_a4 a3) (w_w_a4 b3)))
      rw [a1, w_k_bd, b1, w_k_bd]
      have big : w_t_wof T n p 9 ≠ -1 → ∀ d1 d2 : Bool, ¬ (d1 = false ∧ d2 = false) → w_OK (f151_53 F u2 (w_q_b d1) (w_q_b d2)) (w_k_WR 0 w_k_PT T n m o p s (w_t_cho T n φ (if d1 = true then 108 else 109) (w_t_nx T n p) o)) := by
        intro h9 d1 d2 hb
        obtain ⟨u3, c1, c2, c3⟩ := w_w_147 hu2 b2 (w_t_wof_w h9).1
        unfold f151_53
        rw [c1, w_k_bs]
        have := w_w_55 (F := F) (φ := φ) (m := m) (p0 := p) (b1 := d1) (b2 := d2) ho hE hX c2 (w_w_4t h4 (w_w_a4 c3)) hxp.1
        rw [if_neg hb] at this
        exact this
      rcases w_t_wof2 (p := p) (k := 9) hp.1 hB (by decide) rfl (by decide) (by decide) (by decide) with ⟨w_e1, w_e2, w_e3⟩ | ⟨w_e1, w_e2, w_e3⟩ | ⟨w_e1, w_e2, w_e3⟩
      · have h9 : w_t_wof T n p 9 ≠ -1 := by rw [w_e1]; decide
        have h40 : ¬ w_t_kd T n p = 40 := fun g => h9 (w_t_40 g 9)
        rw [w_e2, w_e3, if_neg (show ¬ w_q_b true = 0 by decide), if_neg h40, if_neg h9, if_pos w_e1]
        exact big h9 true false (by decide)
      · have h9 : w_t_wof T n p 9 ≠ -1 := by rw [w_e1]; decide
        have h40 : ¬ w_t_kd T n p = 40 := fun g => h9 (w_t_40 g 9)
        rw [w_e2, w_e3, if_pos (show w_q_b false = 0 from rfl), if_neg (show ¬ w_q_b true = 0 by decide), if_neg h40, if_neg h9, if_neg (show ¬ w_t_wof T n p 9 = 0 by rw [w_e1]; decide)]
        exact big h9 false true (by decide)
      · rw [w_e2, w_e3, if_pos (show w_q_b false = 0 from rfl), if_pos (show w_q_b false = 0 from rfl), if_pos w_e1]
        have := w_w_55 (F := F) (φ := φ) (m := m) (p0 := p) (b1 := false) (b2 := false) ho hE hX hu2 h4 (Nat.le_refl p)
        rw [if_pos ⟨rfl, rfl⟩] at this
        exact this
    · have h9 : w_t_wof T n p 9 = -1 := Classical.byContradiction fun g => h10 (w_t_wof_x hp.1 hB g)
      have h40 : ¬ w_t_kd T n p = 40 := fun g => h10 (w_t_40 g 10)
      obtain ⟨u3, c1, c2, c3⟩ := w_w_147 hu r2 (w_t_wof_w h10).1
      have hf := w_t_wof_fi (T := T) (k := 10) hp.1 hB (by decide)
      obtain ⟨k, k1, k2⟩ := w_t_fi_lt (T := T) (n := n) (p := p) (w_t_wds 10) 0 (by rw [← hf]; exact h10)
      rw [if_neg h10, if_neg h40, if_pos h9, if_neg h10, c1, w_k_bs]
      rw [hf, k2]
      have k1 : k < 8 := by have : 0 + (w_t_wds 10).length = 8 := rfl; omega
      rw [if_pos ((w_k_inI (by omega)).2 k1)]
      have h4 : w_w_4 s u3 := w_w_4t (w_w_a4 q4) (w_w_4t (w_w_a4 r3) (w_w_a4 c3))
      refine ⟨_, rfl, trivial, h4, c2, hxp.1, ?_⟩
      intro st hst
      show w_q_step (s 207) st (nI k) = _
      unfold w_q_step
      rw [if_pos (show nI k < 8 from (w_k_lt (b := 8) (by omega) (by omega)).2 k1), if_pos (by omega), ← w_w_207 h4]
theorem w_x_unit : w_k_WX w_k_PT T n (f151 F) := by
  intro d e s H
  unfold f151
  rw [if_neg (by rw [H.2.2.1]; exact H.2.1)]
  exact ⟨_, rfl, trivial, w_w_4r, H⟩
end WU
/-! the walks' sums, by nest -/
section WV
variable {T : Nat → Int32} {n : Nat}
theorem w_w_x151 : ∀ m, w_k_WX w_k_PT T n (g151 (m + 1)) := fun m => w_x_unit
theorem w_w_U151 : ∀ m o, o ≤ 6 → 8 ≤ m + o → w_k_WS 0 w_k_PT T n (5 + 3 * o) o (g151 m) (w_t_U T n m)
  | 0, o, h1, h2 => by omega
  | m + 1, o, h1, h2 => by
    have hx : w_k_WX w_k_PT T n (f153 (g151 m)) := by
      obtain ⟨k, rfl⟩ : ∃ k, m = k + 1 := ⟨m - 1, by omega⟩
      exact w_x_sum (w_w_x151 k)
    refine w_w_unit h1 (by omega) (fun ho => ?_) hx
    exact w_w_sum (m := 5 + 3 * (o + 1)) (by omega) (w_w_U151 m (o + 1) (by omega) (by omega))
theorem w_w_E {o : Nat} (ho : o ≤ 6) : w_k_WS 0 w_k_PT T n (3 + 3 * o) o f153c (w_t_E T n) := w_w_sum (m := 5 + 3 * o) (by omega) (w_w_U151 9 o ho (by omega))
theorem w_x_E : w_k_WX w_k_PT T n f153c := w_x_sum (w_w_x151 8)
/-! comparisons and conditions -/
def w_w_cmp (x1 v c : Int32) : Int32 := if c = 60 then (if x1 < v then 1 else 0) else if c = 62 then (if v < x1 then 1 else 0) else if x1 = v then 1 else 0
theorem w_w_cmpB (x1 v c : Int32) : w_k_PB (w_w_cmp x1 v c) := by
  unfold w_w_cmp w_k_PB
  split <;> split <;> first | exact Or.inl rfl | exact Or.inr rfl | (split <;> first | exact Or.inl rfl | exact Or.inr rfl)
theorem w_f79_eq {φ : g_S → Option (Int32 × g_S)} {s : g_S} {x1 x2 : Int32} : f154_79 φ s x1 x2 = g_bd (f153c (g_w s 199 4 (s 199 4 + 1))) fun v s3 => some (w_w_cmp x1 v x2, s3) := by
  unfold f154_79
  rw [w_k_let]
  cases f153c (g_w s 199 4 (s 199 4 + 1)) with
  | none => rfl
  | some w =>
    obtain ⟨v, s3⟩ := w
    rw [w_k_bd, w_k_bd]
    unfold w_w_cmp
    split
    · split <;> rfl
    · split
      · split <;> rfl
      · split <;> rfl
end WV
