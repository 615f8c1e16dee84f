/-! lets, words, parting -/
def w_a_nm (o : Nat) (t v d : Int32) : Nat → Int32 := fun i => if i < 5 then ((nI o) >>> (nI i &&& 31)) &&& 1 else if i = 5 then t else if i = 6 then v else d
theorem w_k_of1 : ∀ o, o < 1152 → nI o / 32 / 6 = nI (o / 192) ∧ nI o / 192 = nI (o / 192) ∧ nI o / 32 - nI o / 32 / 6 * 6 = nI (o / 32 % 6) ∧ nI o - nI o / 32 * 32 = nI (o % 32) := by decide +kernel
theorem w_k_of2 : ∀ o, o < 1152 → ∀ i, i < 5 → ((nI (o % 32)) >>> (nI i &&& 31)) &&& 1 = ((nI o) >>> (nI i &&& 31)) &&& 1 := by decide +kernel
theorem w_k_ofk {o : Nat} (h : o < 1152) : w_k_wi (nI (o / 192)) 0 5 ∧ w_k_wi (nI (o / 32 % 6)) 0 5 := ⟨w_k_iC (n := 5) (by omega) (by omega), w_k_iC (n := 5) (by omega) (by omega)⟩
theorem w_e124_2 {s : g_S} {x t v d : Int32} : ∀ m i y, i + m = 5 → (∀ z, z ≠ 21 → y z = s z) → (∀ j, j < i → y 21 j = (x >>> (nI j &&& 31)) &&& 1) →
    ∃ u, f124_2L y x t v d (nI i) = some u ∧ (∀ z, z ≠ 21 → u z = s z) ∧ (∀ j, j < 5 → u 21 j = (x >>> (nI j &&& 31)) &&& 1) ∧ u 21 5 = t ∧ u 21 6 = v ∧ u 21 7 = d
  | 0, i, y, e, h1, h2 => by
    have e' : i = 5 := by omega
    subst e'
    rw [f124_2L_eq]; unfold f124_2 f124_16
    rw [if_neg (by decide), w_k_let, w_k_let, w_k_let]
    refine ⟨_, rfl, fun z hz => ?_, fun j hj => ?_, ?_, ?_, ?_⟩
    · simp (disch := omega) only [w_k_wn]; exact h1 z hz
    · simp (disch := omega) only [w_k_wq]; exact h2 j hj
    · simp (disch := omega) only [w_k_wq, w_k_wv]
    · simp (disch := omega) only [w_k_wq, w_k_wv]
    · simp (disch := omega) only [w_k_wq, w_k_wv]
  | m + 1, i, y, e, h1, h2 => by
    rw [f124_2L_eq]; unfold f124_2
    rw [if_pos (show nI i < 5 from (w_k_lt (b := 5) (by omega) (by omega)).2 (by omega)), if_pos ((w_k_inI (by omega)).2 (by omega)), w_k_nat (by omega), w_k_let, w_k_s1]
    refine w_e124_2 m (i + 1) _ (by omega) (fun z hz => by dsimp only; rw [w_k_wn hz, h1 z hz]) (fun j hj => ?_)
    dsimp only
    by_cases e : j = i
    · subst e; rw [w_k_wv]
    · rw [w_k_wq (by omega)]; exact h2 j (by omega)
theorem w_e124 {s : g_S} {o : Nat} {t v d : Int32} : ∃ u, f124 s (nI o) t v d = some u ∧ (∀ i, i < 8 → u 21 i = w_a_nm o t v d i) ∧ ∀ z, z ≠ 21 → u z = s z := by
  obtain ⟨u, h1, h2, h3, h4, h5, h6⟩ := w_e124_2 (s := s) (x := nI o) (t := t) (v := v) (d := d) 5 0 s (by omega) (fun _ _ => rfl) (fun j hj => absurd hj (by omega))
  refine ⟨u, h1, fun i hi => ?_, h2⟩
  unfold w_a_nm
  by_cases i5 : i < 5
  · rw [if_pos i5]; exact h3 i i5
  · rw [if_neg i5]
    by_cases w_e5 : i = 5
    · rw [if_pos w_e5, w_e5]; exact h4
    · rw [if_neg w_e5]
      by_cases e6 : i = 6
      · rw [if_pos e6, e6]; exact h5
      · rw [if_neg e6, show i = 7 by omega]; exact h6
theorem w_e169_2 {s : g_S} {x : Int32} : ∀ m i y, i + m = 5 → (∀ z, z ≠ 207 → y z = s z) → (∀ j, j < i → y 207 j = (x >>> (nI j &&& 31)) &&& 1) →
    ∃ u, f169_2L y x (nI i) = some u ∧ (∀ z, z ≠ 207 → u z = s z) ∧ (∀ j, j < 5 → u 207 j = (x >>> (nI j &&& 31)) &&& 1)
  | 0, i, y, e, h1, h2 => by
    have e' : i = 5 := by omega
    subst e'
    rw [f169_2L_eq]; unfold f169_2
    rw [if_neg (by decide)]
    exact ⟨_, rfl, h1, h2⟩
  | m + 1, i, y, e, h1, h2 => by
    rw [f169_2L_eq]; unfold f169_2
    rw [if_pos (show nI i < 5 from (w_k_lt (b := 5) (by omega) (by omega)).2 (by omega)), if_pos ((w_k_inI (by omega)).2 (by omega)), w_k_nat (by omega), w_k_let, w_k_s1]
    refine w_e169_2 m (i + 1) _ (by omega) (fun z hz => by dsimp only; rw [w_k_wn hz, h1 z hz]) (fun j hj => ?_)
    dsimp only
    by_cases e : j = i
    · subst e; rw [w_k_wv]
    · rw [w_k_wq (by omega)]; exact h2 j (by omega)
theorem w_e169 {s : g_S} {o : Nat} {t v d : Int32} (ho : o < 1152) : ∃ u, f169 s (nI o - nI o / 32 * 32) = some u ∧ (∀ i, i < 8 → g_w (g_w (g_w u 207 5 t) 207 6 v) 207 7 d 207 i = w_a_nm o t v d i) ∧ ∀ z, z ≠ 207 → g_w (g_w (g_w u 207 5 t) 207 6 v) 207 7 d z = s z := by
  obtain ⟨u, h1, h2, h3⟩ := w_e169_2 (s := s) (x := nI (o % 32)) 5 0 s (by omega) (fun _ _ => rfl) (fun j hj => absurd hj (by omega))
  rw [(w_k_of1 o ho).2.2.2]
  refine ⟨u, h1, fun i hi => ?_, fun z hz => by simp (disch := omega) only [w_k_wn]; exact h2 z hz⟩
  unfold w_a_nm
  by_cases i5 : i < 5
  · rw [if_pos i5, ← w_k_of2 o ho i i5]; simp (disch := omega) only [w_k_wq]; exact h3 i i5
  · rw [if_neg i5]
    by_cases w_e5 : i = 5
    · rw [if_pos w_e5, w_e5]; simp (disch := omega) only [w_k_wq, w_k_wv]
    · rw [if_neg w_e5]
      by_cases e6 : i = 6
      · rw [if_pos e6, e6]; simp (disch := omega) only [w_k_wq, w_k_wv]
      · rw [if_neg e6, show i = 7 by omega]; simp (disch := omega) only [w_k_wv]
def w_a_lets (A : w_k_A) (l k t : Int32) : Int32 ⊕ Nat := if w_k_wi l 0 (nI A.2.2.1.length - 1) ∧ w_k_wi k 0 5 ∧ w_k_wi t 0 3 then .inl (w_q_b (if t = 0 then w_q_twice (w_a_law A.2.2.1 l) k else w_q_lets (w_a_law A.2.2.1 l) k t)) else .inr 0
theorem w_c_lets {s : g_S} {A : w_k_A} {l k t : Int32} (hA : w_k_Aok A) (H : w_k_CI s A) : w_k_cop s (f83 s l k t) (w_a_lets A l k t) A := by
  have h4 := hA.2.2.1
  have bad : ¬ (w_k_wi l 0 (nI A.2.2.1.length - 1) ∧ w_k_wi k 0 5 ∧ w_k_wi t 0 3) → w_k_cop s (f83_14 s l k t) (w_a_lets A l k t) A := by
    intro h
    unfold f83_14 f83_15 w_a_lets
    rw [if_neg h, w_e116f]
    exact w_ok_some ⟨rfl, H, fun _ _ => rfl⟩
  unfold f83
  rw [w_e119, H.1.2.1, w_k_bs]
  by_cases h1 : w_k_wi l 0 (nI A.2.2.1.length - 1)
  · rw [w_k_ift h1, if_neg w_k_01, w_e118, w_k_bs]
    by_cases h2 : w_k_wi k 0 5
    · rw [w_k_ift h2, if_neg w_k_01, w_e118, w_k_bs]
      by_cases h3 : w_k_wi t 0 3
      · rw [w_k_ift h3, if_neg w_k_01]
        unfold f83_15 w_a_lets
        rw [if_pos (show w_k_wi l 0 (nI A.2.2.1.length - 1) ∧ w_k_wi k 0 5 ∧ w_k_wi t 0 3 from ⟨h1, h2, h3⟩), w_e116t, w_k_tbl]
        obtain ⟨i, hi, rfl⟩ := w_k_i1 rfl (by omega) h1
        obtain ⟨g1, g2⟩ := w_c_law hA H hi
        by_cases ht : t = 0
        · rw [if_pos ht, if_pos ht, if_pos ((w_k_inI (by omega)).2 (by omega)), w_k_nat (by omega), w_e38 g2, w_k_bs, if_pos w_k_isq]
          exact w_ok_some ⟨rfl, H, fun _ _ => rfl⟩
        · rw [if_neg ht, if_neg ht, if_pos ((w_k_inI (by omega)).2 (by omega)), w_k_nat (by omega), w_e37 g2, w_k_bs, if_pos w_k_isq]
          exact w_ok_some ⟨rfl, H, fun _ _ => rfl⟩
      · rw [w_k_iff h3, if_pos rfl]; exact bad (fun h => h3 h.2.2)
    · rw [w_k_iff h2, if_pos rfl]; exact bad (fun h => h2 h.2.1)
  · rw [w_k_iff h1, if_pos rfl]; exact bad (fun h => h1 h.1)
theorem w_e171_32 {s : g_S} {l k t : Int32} : ∀ m i y, i + m = 8 → (∀ z, z ≠ 207 → y z = s z) → ∃ u, f171_32L y l k t (nI i) = f171_42 u l k t ∧ ∀ z, z ≠ 207 → u z = s z
  | 0, i, y, e, h1 => by
    have e' : i = 8 := by omega
    subst e'
    rw [f171_32L_eq]; unfold f171_32
    rw [if_neg (by decide)]
    refine ⟨y, ?_, h1⟩
    generalize f171_42 y l k t = z
    cases z <;> rfl
  | m + 1, i, y, e, h1 => by
    rw [f171_32L_eq]; unfold f171_32
    rw [if_pos (show nI i < 8 from (w_k_lt (b := 8) (by omega) (by omega)).2 (by omega)), if_pos ((w_k_inI (by omega)).2 (by omega)), w_k_nat (by omega), w_k_let, w_k_s1]
    exact w_e171_32 m (i + 1) _ (by omega) (fun z hz => by dsimp only; rw [w_k_wn hz, h1 z hz])
theorem w_m_ask {TR : w_k_TR} {s t : g_S} {A : w_k_A} {p : Int32} {L : w_q_L} {k h r : Int32} (hT : w_k_HH TR) (hL : w_k_ML TR s p L) (ht : ∀ x b, ¬ w_k_sM x b → t x b = s x b) (ht0 : t 199 0 = 0) (hk : w_k_wi k 0 5) (hh : w_k_wi h 0 5) (hr : w_k_wi r 0 3) :
    ∃ u, f168 t p k h r = some u ∧ w_k_eM s u ∧ u 199 0 = 0 ∧ u 199 21 = w_q_b (w_q_holds L 0 k h (t 207)) ∧ u 199 22 = w_q_b (w_q_holds L 1 k h (t 207)) ∧ u 199 19 = w_q_owed L k (t 207) ∧ u 199 24 = w_q_b (w_q_lets L k r) ∧ u 199 25 = w_q_b (w_q_twice L k) ∧ u 199 20 = L.2 + 1 := by
  obtain ⟨u, q1, q2, q3⟩ := w_e168 (h := h) (t := r) hT.1 (w_k_ML_cg hL (fun x g1 g2 => funext fun c => ht x c (by unfold w_k_sM; omega))) hk hh hr
  refine ⟨u, q1, fun x b hx => ?_, ?_, q3⟩
  · have hx' := hx
    unfold w_k_sM at hx
    rw [q2 x b (by omega), ht x b hx']
  · rw [q2 199 0 (by omega), ht0]
theorem w_m_lets {TR : w_k_TR} {s : g_S} {A : w_k_A} {l k t : Int32} (hT : w_k_HH TR) (hA : w_k_Aok A) (H : w_k_MI TR s A) : w_k_mop TR w_k_cI s (f171 s l k t) (w_a_lets A l k t) A := by
  have h4 := hA.2.2.1
  have bad : ¬ (w_k_wi l 0 (nI A.2.2.1.length - 1) ∧ w_k_wi k 0 5 ∧ w_k_wi t 0 3) → w_k_mop TR w_k_cI s (f171_22 (g_w s 199 0 0) l k t) (w_a_lets A l k t) A := by
    intro h
    unfold f171_22 f171_25 w_a_lets
    rw [if_neg h, w_e134b w_k_00 w_k_01, w_k_bd, if_neg w_k_01]
    exact w_m_ref hA H rfl
  unfold f171
  rw [w_k_let, w_k_0n (by omega), H.1.2.1, w_e135, w_k_bs]
  by_cases h1 : w_k_wi l 0 (nI A.2.2.1.length - 1)
  · rw [w_k_ift h1, if_neg w_k_01, w_e135, w_k_bs]
    by_cases h2 : w_k_wi k 0 5
    · rw [w_k_ift h2, if_neg w_k_01, w_e135, w_k_bs]
      by_cases h3 : w_k_wi t 0 3
      · rw [w_k_ift h3, if_neg w_k_01]
        unfold f171_25 w_a_lets
        rw [if_pos (show w_k_wi l 0 (nI A.2.2.1.length - 1) ∧ w_k_wi k 0 5 ∧ w_k_wi t 0 3 from ⟨h1, h2, h3⟩), w_e134o w_k_00, w_k_bd, if_pos rfl]
        obtain ⟨i, hi, rfl⟩ := w_k_i1 rfl (by omega) h1
        obtain ⟨u, g1, g2⟩ := w_e171_32 (s := g_w s 199 0 0) (l := nI i) (k := k) (t := t) 8 0 _ (by omega) (fun _ _ => rfl)
        rw [show f171_32L (g_w s 199 0 0) (nI i) k t 0 = _ from g1]
        unfold f171_42
        obtain ⟨z, q1, q2, q3, q4, q5, q6, q7, q8, q9⟩ := w_m_ask (A := A) (h := 0) (r := t) hT (w_m_law hT hA H hi) (t := u) (fun x b hx => by unfold w_k_sM at hx; rw [g2 x (by omega), w_k_wq (by omega)]) (by rw [g2 199 (by omega)]; exact w_k_00) h2 (by decide) h3
        rw [q1, w_k_bs, q7, q8, if_pos w_k_isq, if_pos w_k_isq]
        by_cases ht : t = 0
        · rw [if_pos ht, if_pos ht]; exact w_m_scr2 hA H q2 q3
        · rw [if_neg ht, if_neg ht]; exact w_m_scr2 hA H q2 q3
      · rw [w_k_iff h3, if_pos rfl]; exact bad (fun h => h3 h.2.2)
    · rw [w_k_iff h2, if_pos rfl]; exact bad (fun h => h2 h.2.1)
  · rw [w_k_iff h1, if_pos rfl]; exact bad (fun h => h1 h.1)
/-! words -/
def w_a_wd (L : w_q_L) (o : Nat) (t v d w : Int32) : Int32 :=
  if w = 2 then w_q_owed L (nI (o / 192)) (w_a_nm o t v d) else if w = 0 then w_q_b (w_q_holds L 0 (nI (o / 192)) (nI (o / 32 % 6)) (w_a_nm o t v d)) else w_q_b (w_q_holds L 1 (nI (o / 192)) (nI (o / 32 % 6)) (w_a_nm o t v d))
abbrev w_a_wg (A : w_k_A) (l o t v d w : Int32) : Prop := w_k_wi l 0 (nI A.2.2.1.length - 1) ∧ w_k_wi o 0 1151 ∧ w_k_wi t 0 3 ∧ w_k_wi v 0 9999 ∧ w_k_wi d 0 9999 ∧ w_k_wi w 0 2
def w_a_words (A : w_k_A) (l o t v d w : Int32) : Int32 ⊕ Nat := if w_a_wg A l o t v d w then .inl (w_a_wd (w_a_law A.2.2.1 l) o.toNatClampNeg t v d w) else .inr 0
theorem w_c_sc {s u : g_S} {A : w_k_A} (hA : w_k_Aok A) (H : w_k_CI s A) (h : ∀ x, ¬ w_k_sC x → u x = s x) : w_k_CI u A ∧ ∀ y, 199 ≤ y → u y = s y :=
  ⟨w_k_CI_cg hA (fun x _ hs => h x hs) H, fun y hy => h y (by unfold w_k_sC; omega)⟩
theorem w_c_words {s : g_S} {A : w_k_A} {l o t v d w : Int32} (hA : w_k_Aok A) (H : w_k_CI s A) : w_k_cop s (f82 s l o t v d w) (w_a_words A l o t v d w) A := by
  have h4 := hA.2.2.1
  have bad : ∀ y, ¬ w_a_wg A l o t v d w → y = f82_14 s l o t v d w ∨ y = f82_30 s l o t v d w → w_k_cop s y (w_a_words A l o t v d w) A := by
    intro y h hy
    unfold f82_14 f82_15 f82_30 f82_31 at hy
    rw [w_e116f] at hy
    unfold w_a_words
    rw [if_neg h]
    rcases hy with hy | hy <;> (rw [hy]; exact w_ok_some ⟨rfl, H, fun _ _ => rfl⟩)
  unfold f82
  rw [w_e119, H.1.2.1, w_k_bs]
  by_cases h1 : w_k_wi l 0 (nI A.2.2.1.length - 1)
  · rw [w_k_ift h1, if_neg w_k_01, w_e118, w_k_bs]
    by_cases h2 : w_k_wi o 0 1151
    · rw [w_k_ift h2, if_neg w_k_01, w_e118, w_k_bs]
      by_cases h3 : w_k_wi t 0 3
      · rw [w_k_ift h3, if_neg w_k_01]
        unfold f82_15
        rw [w_e116t, w_k_tbl, w_e118, w_k_bs]
        by_cases g1 : w_k_wi v 0 9999
        · rw [w_k_ift g1, if_neg w_k_01, w_e118, w_k_bs]
          by_cases g2 : w_k_wi d 0 9999
          · rw [w_k_ift g2, if_neg w_k_01, w_e118, w_k_bs]
            by_cases g3 : w_k_wi w 0 2
            · rw [w_k_ift g3, if_neg w_k_01]
              unfold f82_31 w_a_words
              rw [if_pos (show w_a_wg A l o t v d w from ⟨h1, h2, h3, g1, g2, g3⟩), w_e116t, w_k_tbl]
              obtain ⟨i, hi, rfl⟩ := w_k_i1 rfl (by omega) h1
              obtain ⟨j, hj, rfl⟩ := w_k_iL 1151 h2 rfl (by omega)
              obtain ⟨r1, r2⟩ := w_c_law hA H hi
              obtain ⟨u, p1, p2, p3⟩ := w_e124 (s := s) (o := j) (t := t) (v := v) (d := d)
              have hok := w_k_LRok r2
              have hLu : w_k_LR u (86 + 8 * i) (w_a_law A.2.2.1 (nI i)) := w_k_LR_cg (fun x q1 q2 => p3 x (by omega)) r2
              have ei : (nI i).toNatClampNeg = i := w_k_nat (by omega)
              have ej : (nI j).toNatClampNeg = j := w_k_nat (by omega)
              have hin : m_in (nI i) 4 = true := (w_k_inI (by omega)).2 (by omega)
              have fr : ∀ z : g_S, (∀ y, y ≠ 86 + 8 * i + 7 → z y = u y) → ∀ x, ¬ w_k_sC x → z x = s x := by
                intro z hz x hs
                rw [hz x (fun e => hs (e ▸ w_k_sC_l r1)), p3 x (fun e => hs (by rw [e]; unfold w_k_sC; omega))]
              unfold f122
              rw [p1, w_k_bs, w_k_bs, (w_k_of1 j (by omega)).1, hin, if_pos rfl, ei, ej]
              unfold w_a_wd
              by_cases w2 : w = 2
              · rw [if_pos w2, if_pos w2]
                obtain ⟨z, q1, q2⟩ := w_e35 (p := 21) (k := nI (j / 192)) hLu (by omega)
                rw [q1, w_k_bd, w_q_owed_cg p2 hok]
                exact w_ok_some ⟨rfl, w_c_sc hA H (fr z q2)⟩
              · rw [if_neg w2, if_neg w2]
                unfold f82_58 f123
                rw [hin, if_pos rfl, if_pos rfl, ei, w_k_bs, w_k_bs, (w_k_of1 j (by omega)).2.2.1]
                by_cases w0 : w = 0
                · rw [if_pos w0, if_pos w0]
                  obtain ⟨z, q1, q2⟩ := w_e34 (p := 21) (t := 0) (k := nI (j / 192)) (h := nI (j / 32 % 6)) hLu (by omega)
                  rw [q1, w_k_bd, w_q_holds_cg p2 hok]
                  cases hb : w_q_holds (w_a_law A.2.2.1 (nI i)) 0 (nI (j / 192)) (nI (j / 32 % 6)) (w_a_nm j t v d) with
                  | false => rw [if_pos (show w_q_b false = 0 from rfl)]; exact w_ok_some ⟨rfl, w_c_sc hA H (fr z q2)⟩
                  | true => rw [if_neg (by decide)]; exact w_ok_some ⟨rfl, w_c_sc hA H (fr z q2)⟩
                · rw [if_neg w0, if_neg w0]
                  obtain ⟨z, q1, q2⟩ := w_e34 (p := 21) (t := 1) (k := nI (j / 192)) (h := nI (j / 32 % 6)) hLu (by omega)
                  rw [q1, w_k_bd, w_q_holds_cg p2 hok]
                  cases hb : w_q_holds (w_a_law A.2.2.1 (nI i)) 1 (nI (j / 192)) (nI (j / 32 % 6)) (w_a_nm j t v d) with
                  | false => rw [if_pos (show w_q_b false = 0 from rfl)]; exact w_ok_some ⟨rfl, w_c_sc hA H (fr z q2)⟩
                  | true => rw [if_neg (by decide)]; exact w_ok_some ⟨rfl, w_c_sc hA H (fr z q2)⟩
            · rw [w_k_iff g3, if_pos rfl]; exact bad _ (fun h => g3 h.2.2.2.2.2) (Or.inr rfl)
          · rw [w_k_iff g2, if_pos rfl]; exact bad _ (fun h => g2 h.2.2.2.2.1) (Or.inr rfl)
        · rw [w_k_iff g1, if_pos rfl]; exact bad _ (fun h => g1 h.2.2.2.1) (Or.inr rfl)
      · rw [w_k_iff h3, if_pos rfl]; exact bad _ (fun h => h3 h.2.2.1) (Or.inl rfl)
    · rw [w_k_iff h2, if_pos rfl]; exact bad _ (fun h => h2 h.2.1) (Or.inl rfl)
  · rw [w_k_iff h1, if_pos rfl]; exact bad _ (fun h => h1 h.1) (Or.inl rfl)
theorem w_m_words {TR : w_k_TR} {s : g_S} {A : w_k_A} {l o t v d w : Int32} (hT : w_k_HH TR) (hA : w_k_Aok A) (H : w_k_MI TR s A) : w_k_mop TR w_k_cI s (f170 s l o t v d w) (w_a_words A l o t v d w) A := by
  have h4 := hA.2.2.1
  have bad : ¬ w_a_wg A l o t v d w → w_k_mop TR w_k_cI s (f170_37 (g_w s 199 0 0) l o t v d w) (w_a_words A l o t v d w) A := by
    intro h
    unfold f170_37 f170_40 w_a_words
    rw [if_neg h, w_e134b w_k_00 w_k_01, w_k_bd, if_neg w_k_01]
    exact w_m_ref hA H rfl
  unfold f170
  rw [w_k_let, w_k_0n (by omega), H.1.2.1, w_e135, w_k_bs]
  by_cases h1 : w_k_wi l 0 (nI A.2.2.1.length - 1)
  · rw [w_k_ift h1, if_neg w_k_01, w_e135, w_k_bs]
    by_cases h2 : w_k_wi o 0 1151
    · rw [w_k_ift h2, if_neg w_k_01, w_e135, w_k_bs]
      by_cases h3 : w_k_wi t 0 3
      · rw [w_k_ift h3, if_neg w_k_01, w_e135, w_k_bs]
        by_cases g1 : w_k_wi v 0 9999
        · rw [w_k_ift g1, if_neg w_k_01, w_e135, w_k_bs]
          by_cases g2 : w_k_wi d 0 9999
          · rw [w_k_ift g2, if_neg w_k_01, w_e135, w_k_bs]
            by_cases g3 : w_k_wi w 0 2
            · rw [w_k_ift g3, if_neg w_k_01]
              unfold f170_40 w_a_words
              rw [if_pos (show w_a_wg A l o t v d w from ⟨h1, h2, h3, g1, g2, g3⟩), w_e134o w_k_00, w_k_bd, if_pos rfl]
              obtain ⟨i, hi, rfl⟩ := w_k_i1 rfl (by omega) h1
              obtain ⟨j, hj, rfl⟩ := w_k_iL 1151 h2 rfl (by omega)
              obtain ⟨u, p1, p2, p3⟩ := w_e169 (s := g_w s 199 0 0) (o := j) (t := t) (v := v) (d := d) (by omega)
              have hL := w_m_law hT hA H hi
              obtain ⟨z, q1, q2, q3, q4, q5, q6, _⟩ := w_m_ask (A := A) (h := nI (j / 32 % 6)) (r := 0) hT hL (t := g_w (g_w (g_w u 207 5 t) 207 6 v) 207 7 d) (fun x b hx => by unfold w_k_sM at hx; rw [p3 x (by omega), w_k_wq (by omega)]) (by rw [p3 199 (by omega)]; exact w_k_00) (w_k_ofk (o := j) (by omega)).1 (w_k_ofk (o := j) (by omega)).2 (by decide)
              rw [w_q_holds_cg p2 hL.1] at q4 q5
              rw [w_q_owed_cg p2 hL.1] at q6
              have ej : (nI j).toNatClampNeg = j := w_k_nat (by omega)
              rw [p1, w_k_bs, w_k_let, w_k_let, w_k_let, (w_k_of1 j (by omega)).2.1, (w_k_of1 j (by omega)).2.2.1, q1, w_k_bs, q4, q5, q6, ej]
              unfold w_a_wd
              obtain ⟨x, hx, rfl⟩ := w_k_iL 2 g3 rfl (by omega)
              match x, hx with
              | 0, _ =>
                rw [if_pos (show nI 0 = 0 from rfl), if_neg (show ¬ nI 0 = 2 by decide), if_pos (show nI 0 = 0 from rfl)]
                cases w_q_holds (w_a_law A.2.2.1 (nI i)) 0 (nI (j / 192)) (nI (j / 32 % 6)) (w_a_nm j t v d) with
                | false => rw [if_pos (show w_q_b false = 0 from rfl)]; exact w_m_scr2 hA H q2 q3
                | true => rw [if_neg (by decide)]; exact w_m_scr2 hA H q2 q3
              | 1, _ =>
                rw [if_neg (show ¬ nI 1 = 0 by decide), if_pos (show nI 1 = 1 from rfl), if_neg (show ¬ nI 1 = 2 by decide), if_neg (show ¬ nI 1 = 0 by decide)]
                cases w_q_holds (w_a_law A.2.2.1 (nI i)) 1 (nI (j / 192)) (nI (j / 32 % 6)) (w_a_nm j t v d) with
                | false => rw [if_pos (show w_q_b false = 0 from rfl)]; exact w_m_scr2 hA H q2 q3
                | true => rw [if_neg (by decide)]; exact w_m_scr2 hA H q2 q3
              | 2, _ =>
                rw [if_neg (show ¬ nI 2 = 0 by decide), if_neg (show ¬ nI 2 = 1 by decide), if_pos (show nI 2 = 2 from rfl)]
                exact w_m_scr2 hA H q2 q3
            · rw [w_k_iff g3, if_pos rfl]; exact bad (fun h => g3 h.2.2.2.2.2)
          · rw [w_k_iff g2, if_pos rfl]; exact bad (fun h => g2 h.2.2.2.2.1)
        · rw [w_k_iff g1, if_pos rfl]; exact bad (fun h => g1 h.2.2.2.1)
      · rw [w_k_iff h3, if_pos rfl]; exact bad (fun h => h3 h.2.2.1)
    · rw [w_k_iff h2, if_pos rfl]; exact bad (fun h => h2 h.2.1)
  · rw [w_k_iff h1, if_pos rfl]; exact bad (fun h => h1 h.1)
