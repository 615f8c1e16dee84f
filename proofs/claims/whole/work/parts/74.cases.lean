/-! cases of the model -/
theorem w_mv_2 {t : g_S} {W : w_k_V} {v : Int32} (H : w_k_MV t W) : w_k_MV (g_w t 199 28 v) (upd W 2 v) :=
  w_k_MV_mk H (fun j hj => w_k_un (by omega)) (fun x h1 h2 => w_k_wn (by omega)) ⟨H.1.1, H.1.2.1, rfl, H.1.2.2.2.1, H.1.2.2.2.2.1, H.1.2.2.2.2.2.1, H.1.2.2.2.2.2.2.1, H.1.2.2.2.2.2.2.2⟩
theorem w_mv_3 {t : g_S} {W : w_k_V} {v : Int32} (H : w_k_MV t W) : w_k_MV (g_w t 199 29 v) (upd W 3 v) :=
  w_k_MV_mk H (fun j hj => w_k_un (by omega)) (fun x h1 h2 => w_k_wn (by omega)) ⟨H.1.1, H.1.2.1, H.1.2.2.1, rfl, H.1.2.2.2.2.1, H.1.2.2.2.2.2.1, H.1.2.2.2.2.2.2.1, H.1.2.2.2.2.2.2.2⟩
theorem w_mv_f {t : g_S} {W : w_k_V} {g i : Nat} {v : Int32} (H : w_k_MV t W) (hg : g < 13) (hi : i < 4) : w_k_MV (g_w t (225 + g) i v) (upd W (17 + 12 * g + i) v) := by
  refine w_k_MV_hand H hg (fun j hj => w_k_un (by omega)) ?_ ?_ ?_ ?_ ?_ ?_
  · intro b _ _ _ _ _ _; rw [w_k_wn (by omega)]
  · intro x hx; rw [w_k_wn (by omega)]
  · intro h hh hk; simp (disch := omega) only [w_k_wn]; exact ⟨trivial, trivial⟩
  · intro j hj; rw [w_k_wn (y := 209 + g) (by omega), w_k_un (by omega)]; exact H.2.1 g j hg hj
  · rw [w_k_wn (y := 222) (by omega), w_k_wn (y := 223) (by omega), w_k_un (by omega), w_k_un (by omega)]; exact H.2.2.1 g hg
  · intro f hf
    by_cases e : f = i
    · subst e; rw [w_k_wv, w_k_ue]
    · rw [w_k_wq (by omega), w_k_un (by omega)]; exact H.2.2.2.1 g f hg hf
section CK
variable {s : g_S} {p : Int32}
theorem w_e193_15 (hs : ∀ h f, h < 13 → f < 4 → m_isb (s (225 + h) f) = true) {h : Nat} (hh : h < 13) : ∀ d i t, i + d = 4 → (∀ x c, ¬ (269 ≤ x ∧ x < 282) → t x c = s x c) →
    ∃ u, f193_15L t p (nI h) (nI i) = some (.inl (nI (h + 1), u)) ∧ (∀ x c, ¬ (269 ≤ x ∧ x < 282) → u x c = s x c) ∧ (∀ f, i ≤ f → f < 4 → u (269 + h) f = s (225 + h) f) ∧ (∀ x c, ¬ (x = 269 + h ∧ i ≤ c ∧ c < 4) → u x c = t x c)
  | 0, i, t, e, ht => by
    have e' : i = 4 := by omega
    subst e'
    rw [f193_15L_eq]; unfold f193_15
    rw [if_neg (by decide), w_k_s1]
    exact ⟨t, rfl, ht, fun f h1 h2 => absurd h1 (by omega), fun _ _ _ => rfl⟩
  | d + 1, i, t, e, ht => by
    rw [f193_15L_eq]; unfold f193_15
    rw [if_pos (show nI i < 4 from (w_k_lt (b := 4) (by omega) (by omega)).2 (by omega)), if_pos (w_k_hin hh), if_pos ((w_k_inI (by omega)).2 (by omega)), w_k_nat (by omega), w_k_nat (by omega), ht _ _ (by omega), if_pos (hs h i hh (by omega)), w_k_let, w_k_s1]
    obtain ⟨u, q1, q2, q3, q4⟩ := w_e193_15 hs hh d (i + 1) (g_w t (269 + h) i (s (225 + h) i)) (by omega) (fun x c hx => by rw [w_k_wn (by omega), ht x c hx])
    refine ⟨u, q1, q2, fun f h1 h2 => ?_, fun x c hx => ?_⟩
    · by_cases e : f = i
      · subst e; rw [q4 _ _ (by omega), w_k_wv]
      · exact q3 f (by omega) h2
    · rw [q4 x c (by omega), w_k_wq (by omega)]
theorem w_e193_10 (hs : ∀ h f, h < 13 → f < 4 → m_isb (s (225 + h) f) = true) : ∀ d h t, h + d = 13 → (∀ x c, ¬ (269 ≤ x ∧ x < 282) → t x c = s x c) → (∀ g f, g < h → f < 4 → t (269 + g) f = s (225 + g) f) →
    ∃ u, f193_10L t p (nI h) = f193_36L u p 0 ∧ (∀ x c, ¬ (269 ≤ x ∧ x < 282) → u x c = s x c) ∧ (∀ g f, g < 13 → f < 4 → u (269 + g) f = s (225 + g) f)
  | 0, h, t, e, ht, h1 => by
    have e' : h = 13 := by omega
    subst e'
    rw [f193_10L_eq]; unfold f193_10
    rw [if_neg (by decide)]
    refine ⟨t, ?_, ht, h1⟩
    cases f193_36L t p 0 <;> rfl
  | d + 1, h, t, e, ht, h1 => by
    rw [f193_10L_eq]; unfold f193_10
    rw [if_pos (show nI h < 13 from (w_k_lt (b := 13) (by omega) (by omega)).2 (by omega))]
    obtain ⟨u, q1, q2, q3, q4⟩ := w_e193_15 (p := p) hs (h := h) (by omega) 4 0 t (by omega) ht
    rw [show f193_15L t p (nI h) 0 = _ from q1]
    exact w_e193_10 hs d (h + 1) u (by omega) q2 (fun g f hg hf => by
      by_cases e : g = h
      · subst e; exact q3 f (by omega) hf
      · rw [q4 _ _ (by omega)]; exact h1 g f (by omega) hf)
theorem w_e194_15 (hs : ∀ h f, h < 13 → f < 4 → m_isb (s (269 + h) f) = true) {h : Nat} (hh : h < 13) : ∀ d i t, i + d = 4 → (∀ x c, ¬ (225 ≤ x ∧ x < 238) → t x c = s x c) →
    ∃ u, f194_15L t (nI h) (nI i) = some (.inl (nI (h + 1), u)) ∧ (∀ x c, ¬ (225 ≤ x ∧ x < 238) → u x c = s x c) ∧ (∀ f, i ≤ f → f < 4 → u (225 + h) f = s (269 + h) f) ∧ (∀ x c, ¬ (x = 225 + h ∧ i ≤ c ∧ c < 4) → u x c = t x c)
  | 0, i, t, e, ht => by
    have e' : i = 4 := by omega
    subst e'
    rw [f194_15L_eq]; unfold f194_15
    rw [if_neg (by decide), w_k_s1]
    exact ⟨t, rfl, ht, fun f h1 h2 => absurd h1 (by omega), fun _ _ _ => rfl⟩
  | d + 1, i, t, e, ht => by
    rw [f194_15L_eq]; unfold f194_15
    rw [if_pos (show nI i < 4 from (w_k_lt (b := 4) (by omega) (by omega)).2 (by omega)), if_pos (w_k_hin hh), if_pos ((w_k_inI (by omega)).2 (by omega)), w_k_nat (by omega), w_k_nat (by omega), ht _ _ (by omega), if_pos (hs h i hh (by omega)), w_k_let, w_k_s1]
    obtain ⟨u, q1, q2, q3, q4⟩ := w_e194_15 hs hh d (i + 1) (g_w t (225 + h) i (s (269 + h) i)) (by omega) (fun x c hx => by rw [w_k_wn (by omega), ht x c hx])
    refine ⟨u, q1, q2, fun f h1 h2 => ?_, fun x c hx => ?_⟩
    · by_cases e : f = i
      · subst e; rw [q4 _ _ (by omega), w_k_wv]
      · exact q3 f (by omega) h2
    · rw [q4 x c (by omega), w_k_wq (by omega)]
theorem w_e194_10 (hs : ∀ h f, h < 13 → f < 4 → m_isb (s (269 + h) f) = true) : ∀ d h t, h + d = 13 → (∀ x c, ¬ (225 ≤ x ∧ x < 238) → t x c = s x c) → (∀ g f, g < h → f < 4 → t (225 + g) f = s (269 + g) f) → (∀ g f, 4 ≤ f → t (225 + g) f = s (225 + g) f) →
    ∃ u, f194_10L t (nI h) = some u ∧ (∀ x c, ¬ (225 ≤ x ∧ x < 238) → u x c = s x c) ∧ (∀ g f, g < 13 → f < 4 → u (225 + g) f = s (269 + g) f) ∧ (∀ g f, 4 ≤ f → u (225 + g) f = s (225 + g) f)
  | 0, h, t, e, ht, h1, h2 => by
    have e' : h = 13 := by omega
    subst e'
    rw [f194_10L_eq]; unfold f194_10
    rw [if_neg (by decide)]
    exact ⟨t, rfl, ht, h1, h2⟩
  | d + 1, h, t, e, ht, h1, h2 => by
    rw [f194_10L_eq]; unfold f194_10
    rw [if_pos (show nI h < 13 from (w_k_lt (b := 13) (by omega) (by omega)).2 (by omega))]
    obtain ⟨u, q1, q2, q3, q4⟩ := w_e194_15 hs (h := h) (by omega) 4 0 t (by omega) ht
    rw [show f194_15L t (nI h) 0 = _ from q1]
    exact w_e194_10 hs d (h + 1) u (by omega) q2 (fun g f hg hf => by
      by_cases e : g = h
      · subst e; exact q3 f (by omega) hf
      · rw [q4 _ _ (by omega)]; exact h1 g f (by omega) hf) (fun g f hf => by rw [q4 _ _ (by omega)]; exact h2 g f hf)
end CK
section CM
variable {s : g_S} {V : w_k_V} {n b : Nat}
theorem w_e193_36 (H : w_k_Vok n V) (hb : b < 256) : ∀ d m t, m + d = w_k_qc V → w_k_MV t (w_k_cs V V b m) → t 199 46 = V 2 → t 199 47 = V 3 →
    ∃ u, f193_36L t (nI b) (nI m) = some u ∧ w_k_MV u (w_k_cs V V b (w_k_qc V)) ∧ ∀ x c, ¬ ((x = 199 ∧ (c = 28 ∨ c = 29)) ∨ (225 ≤ x ∧ x < 238 ∧ c < 4)) → u x c = t x c
  | 0, m, t, e, hM, h46, h47 => by
    have hbd := w_k_Vb H
    have e' : m = w_k_qc V := by omega
    subst e'
    rw [f193_36L_eq]; unfold f193_36
    rw [hM.1.2.2.2.2.2.1, w_lk_n H (w_cs_lk w_lk_rfl (Nat.le_refl _)) (by omega), w_k_qcI H, if_neg (w_k_nlt (by omega) (by omega) (by omega))]
    exact ⟨t, rfl, hM, fun _ _ _ => rfl⟩
  | d + 1, m, t, e, hM, h46, h47 => by
    have hbd := w_k_Vb H
    have hlm := w_cs_lk (b := b) (V := V) (W := V) w_lk_rfl (n := m) (by omega)
    obtain ⟨c1, c2, c3, c4⟩ := H.2.2.2.2.2.2.2.2.2.1 m (by omega)
    have x : ∀ i, i < 3 → t (260 + m) i = V (170 + 3 * m + i) := fun i hi => by rw [hM.2.2.2.2.1 m i (by omega) hi, w_lk_n H hlm (by omega)]
    have x0 : t (260 + m) 0 = V (170 + 3 * m) := x 0 (by omega)
    have x1 : t (260 + m) 1 = V (171 + 3 * m) := (x 1 (by omega)).trans (congrArg V (by omega))
    have x2 : t (260 + m) 2 = V (172 + 3 * m) := (x 2 (by omega)).trans (congrArg V (by omega))
    have hin : m_in (nI m) 8 = true := (w_k_inI (by omega)).2 (by omega)
    have hnm : (nI m).toNatClampNeg = m := w_k_nat (by omega)
    rw [f193_36L_eq]; unfold f193_36
    rw [hM.1.2.2.2.2.2.1, w_lk_n H hlm (by omega), w_k_qcI H, if_pos ((w_k_lt (by omega) (by omega)).2 (by omega))]
    have next : ∀ z, w_k_MV z (upd (w_k_cs V V b m) (w_k_sl V m) (w_k_sv V m (w_q_b (b.testBit m)))) → (∀ y c, ¬ ((y = 199 ∧ (c = 28 ∨ c = 29)) ∨ (225 ≤ y ∧ y < 238 ∧ c < 4)) → z y c = t y c) →
        ∃ u, g_st (some (Sum.inl (nI m + 1, z))) (fun S => f193_36L S.2 (nI b) S.1) = some u ∧ w_k_MV u (w_k_cs V V b (w_k_qc V)) ∧ ∀ x c, ¬ ((x = 199 ∧ (c = 28 ∨ c = 29)) ∨ (225 ≤ x ∧ x < 238 ∧ c < 4)) → u x c = t x c := by
      intro z hz hf
      rw [w_k_s1]
      obtain ⟨u, q1, q2, q3⟩ := w_e193_36 H hb d (m + 1) z (by omega) hz (by rw [hf 199 46 (by omega)]; exact h46) (by rw [hf 199 47 (by omega)]; exact h47)
      exact ⟨u, q1, q2, fun y c hy => by rw [q3 y c hy, hf y c hy]⟩
    have key : ∀ w : Bool, w = b.testBit m → ∃ u, g_st (f193_50 t (nI b) (nI m) (w_q_b w)) (fun S => f193_36L S.2 (nI b) S.1) = some u ∧ w_k_MV u (w_k_cs V V b (w_k_qc V)) ∧ ∀ x c, ¬ ((x = 199 ∧ (c = 28 ∨ c = 29)) ∨ (225 ≤ x ∧ x < 238 ∧ c < 4)) → u x c = t x c := by
      intro w hw
      unfold w_k_sl w_k_sv at next
      rw [← hw] at next
      unfold f193_50
      rw [if_pos hin, hnm, x0]
      by_cases h4 : V (170 + 3 * m) = 4
      · simp only [if_pos h4] at next
        have hnl : ¬ V (170 + 3 * m) < 4 := by rw [h4]; decide
        have h5 : ¬ V (170 + 3 * m) = 5 := by rw [h4]; decide
        rw [if_neg hnl]
        unfold f193_73 f193_88 f193_89
        rw [if_pos h4]
        cases w with
        | false =>
          rw [if_pos (show w_q_b false = 0 from rfl), h46, w_k_let, if_neg h5]
          exact next _ (w_mv_2 hM) (fun y c hy => w_k_wq (by omega))
        | true =>
          rw [if_neg (by decide), if_pos hin, hnm, x2, w_k_let, if_neg h5]
          exact next _ (w_mv_2 hM) (fun y c hy => w_k_wq (by omega))
      · simp only [if_neg h4] at next
        by_cases h5 : V (170 + 3 * m) = 5
        · simp only [if_pos h5] at next
          have hnl : ¬ V (170 + 3 * m) < 4 := by rw [h5]; decide
          rw [if_neg hnl]
          unfold f193_73 f193_89 f193_104
          rw [if_neg h4, if_pos h5]
          cases w with
          | false =>
            rw [if_pos (show w_q_b false = 0 from rfl), h47, w_k_let]
            exact next _ (w_mv_3 hM) (fun y c hy => w_k_wq (by omega))
          | true =>
            rw [if_neg (by decide), if_pos hin, hnm, x2, w_k_let]
            exact next _ (w_mv_3 hM) (fun y c hy => w_k_wq (by omega))
        · simp only [if_neg h5] at next
          have h3 : w_k_wi (V (170 + 3 * m)) 0 3 := ((w_k_wi4.1 c1).elim id (fun h => absurd h (by rintro (h | h); exact h4 h; exact h5 h)))
          obtain ⟨i, hi, hie⟩ := w_k_iL 3 h3 rfl (by omega)
          obtain ⟨g, hg, hg3, hge⟩ := w_k_hx H (c2 (w_k_wi3l h3).1)
          rw [if_pos (w_k_wi3l h3).1, x1, hge, if_pos (w_k_hin hg3), if_pos (show m_in (V (170 + 3 * m)) 4 = true by rw [hie]; exact (w_k_inI (by omega)).2 (by omega)), if_pos w_k_isq, w_k_let]
          unfold f193_73 f193_89
          rw [if_neg h4, if_neg h5]
          rw [hge, hie, w_k_nat (by omega), w_k_nat (by omega)] at next
          have ei : (V (170 + 3 * m)).toNatClampNeg = i := by rw [hie, w_k_nat (by omega)]
          rw [ei, w_k_nat (by omega)]
          exact next _ (w_mv_f hM hg3 (by omega)) (fun y c hy => w_k_wq (by omega))
    by_cases hbit : (((nI b) >>> (nI m &&& 31)) &&& 1) = 1
    · rw [if_pos hbit]
      exact key true ((w_k_bitd hb (by omega)).1 hbit).symm
    · rw [if_neg hbit]
      refine key false ?_
      cases h : b.testBit m with
      | false => rfl
      | true => exact absurd ((w_k_bitd hb (by omega)).2 h) hbit
theorem w_e193 (H : w_k_Vok n V) (hb : b < 256) (hM : w_k_MV s V) : ∃ u, f193 s (nI b) = some u ∧ w_k_MV u (w_k_cs V V b (w_k_qc V)) ∧ u 199 46 = V 2 ∧ u 199 47 = V 3 ∧ (∀ g f, g < 13 → f < 4 → u (269 + g) f = V (17 + 12 * g + f)) ∧
    ∀ x c, ¬ ((x = 199 ∧ (c = 28 ∨ c = 29 ∨ c = 46 ∨ c = 47)) ∨ (225 ≤ x ∧ x < 238 ∧ c < 4) ∨ (269 ≤ x ∧ x < 282)) → u x c = s x c := by
  unfold f193
  rw [w_k_let, w_k_let, w_k_wq (by omega), hM.1.2.2.1, hM.1.2.2.2.1]
  have hM1 : w_k_MV (g_w (g_w s 199 46 (V 2)) 199 47 (V 3)) V := w_k_MV_cg hM (w_k_eM_w (w_k_eM_w w_k_eM_rfl (by unfold w_k_sM; omega)) (by unfold w_k_sM; omega))
  obtain ⟨u1, p1, p2, p3⟩ := w_e193_10 (s := g_w (g_w s 199 46 (V 2)) 199 47 (V 3)) (p := nI b) (fun h f hh hf => by rw [hM1.2.2.2.1 h f hh hf]; exact H.2.2.2.2.2.2.2.2.1 h f hh hf) 13 0 _ (by omega) (fun _ _ _ => rfl) (fun g f hg => absurd hg (by omega))
  rw [show f193_10L (g_w (g_w s 199 46 (V 2)) 199 47 (V 3)) (nI b) 0 = _ from p1]
  have hM2 : w_k_MV u1 V := w_k_MV_cg hM1 (fun x c hx => by unfold w_k_sM at hx; rw [p2 x c (by omega)])
  obtain ⟨u, q1, q2, q3⟩ := w_e193_36 H hb (w_k_qc V) 0 u1 (by omega) hM2 (by rw [p2 199 46 (by omega), w_k_wq (by omega), w_k_wv]) (by rw [p2 199 47 (by omega), w_k_wv])
  refine ⟨u, q1, q2, ?_, ?_, fun g f hg hf => ?_, fun x c hx => ?_⟩
  · rw [q3 199 46 (by omega), p2 199 46 (by omega), w_k_wq (by omega), w_k_wv]
  · rw [q3 199 47 (by omega), p2 199 47 (by omega), w_k_wv]
  · rw [q3 (269 + g) f (by omega), p3 g f hg hf]; exact hM1.2.2.2.1 g f hg hf
  · rw [q3 x c (by omega), p2 x c (by omega), w_k_wq (by omega), w_k_wq (by omega)]
theorem w_e194 {W : w_k_V} (H : w_k_Vok n V) (hM : w_k_MV s W) (hW : ∀ j, ¬ (j = 2 ∨ j = 3 ∨ (17 ≤ j ∧ j < 166 ∧ 7 ≤ (j - 10) % 12)) → W j = V j) (h46 : s 199 46 = V 2) (h47 : s 199 47 = V 3) (hk : ∀ g f, g < 13 → f < 4 → s (269 + g) f = V (17 + 12 * g + f)) :
    ∃ u, f194 s = some u ∧ w_k_MV u V ∧ ∀ x c, ¬ ((x = 199 ∧ (c = 28 ∨ c = 29)) ∨ (225 ≤ x ∧ x < 238 ∧ c < 4)) → u x c = s x c := by
  unfold f194
  rw [w_k_let, w_k_let, w_k_wq (by omega), h46, h47]
  obtain ⟨u, q1, q2, q3, q4⟩ := w_e194_10 (s := g_w (g_w s 199 28 (V 2)) 199 29 (V 3)) (fun h f hh hf => by rw [w_k_wn (by omega), w_k_wn (by omega), hk h f hh hf]; exact H.2.2.2.2.2.2.2.2.1 h f hh hf) 13 0 _ (by omega) (fun _ _ _ => rfl) (fun g f hg => absurd hg (by omega)) (fun _ _ _ => rfl)
  have fr : ∀ x c, ¬ ((x = 199 ∧ (c = 28 ∨ c = 29)) ∨ (225 ≤ x ∧ x < 238 ∧ c < 4)) → u x c = s x c := fun x c hx => by
    by_cases e : 225 ≤ x ∧ x < 238
    · obtain ⟨g, rfl⟩ : ∃ g, x = 225 + g := ⟨x - 225, by omega⟩
      rw [q4 g c (by omega), w_k_wq (by omega), w_k_wq (by omega)]
    · rw [q2 x c e, w_k_wq (by omega), w_k_wq (by omega)]
  refine ⟨u, q1, ⟨⟨?_, ?_, ?_, ?_, ?_, ?_, ?_, ?_⟩, fun h i hh hi => ?_, fun h hh => ?_, fun h f hh hf => ?_, fun q i hq hi => ?_, fun p hp => ?_⟩, fr⟩
  · rw [fr 199 26 (by omega), hM.1.1, hW 0 (by omega)]
  · rw [fr 199 27 (by omega), hM.1.2.1, hW 1 (by omega)]
  · rw [q2 199 28 (by omega), w_k_wq (by omega), w_k_wv]
  · rw [q2 199 29 (by omega), w_k_wv]
  · rw [fr 199 13 (by omega), hM.1.2.2.2.2.1, hW 4 (by omega)]
  · rw [fr 199 43 (by omega), hM.1.2.2.2.2.2.1, hW 5 (by omega)]
  · rw [fr 199 49 (by omega), hM.1.2.2.2.2.2.2.1, hW 6 (by omega)]
  · rw [fr 199 50 (by omega), hM.1.2.2.2.2.2.2.2, hW 7 (by omega)]
  · rw [fr (209 + h) i (by omega), hM.2.1 h i hh hi, hW _ (by omega)]
  · rw [fr 222 h (by omega), fr 223 h (by omega), (hM.2.2.1 h hh).1, (hM.2.2.1 h hh).2, hW _ (by omega), hW _ (by omega)]; exact ⟨rfl, rfl⟩
  · rw [q3 h f hh hf, w_k_wn (by omega), w_k_wn (by omega), hk h f hh hf]
  · rw [fr (260 + q) i (by omega), hM.2.2.2.2.1 q i hq hi, hW _ (by omega)]
  · rw [fr (540 + p) 0 (by omega), fr (540 + p) 1 (by omega), (hM.2.2.2.2.2 p hp).1, (hM.2.2.2.2.2 p hp).2, hW _ (by omega), hW _ (by omega)]; exact ⟨rfl, rfl⟩
end CM
theorem w_k_sl_m {n q : Nat} {V : w_k_V} (H : w_k_Vok n V) (hq : q < w_k_qc V) : w_k_sl V q = 2 ∨ w_k_sl V q = 3 ∨ (17 ≤ w_k_sl V q ∧ w_k_sl V q < 166 ∧ 7 ≤ (w_k_sl V q - 10) % 12) := by
  obtain ⟨c1, c2, c3, c4⟩ := H.2.2.2.2.2.2.2.2.2.1 q hq
  unfold w_k_sl
  by_cases h4 : V (170 + 3 * q) = 4
  · rw [if_pos h4]; exact Or.inl rfl
  · rw [if_neg h4]
    by_cases h5 : V (170 + 3 * q) = 5
    · rw [if_pos h5]; exact Or.inr (Or.inl rfl)
    · rw [if_neg h5]
      have h3 : w_k_wi (V (170 + 3 * q)) 0 3 := ((w_k_wi4.1 c1).elim id (fun h => absurd h (by rintro (h | h); exact h4 h; exact h5 h)))
      obtain ⟨i, hi, hie⟩ := w_k_iL 3 h3 rfl (by omega)
      obtain ⟨k, hk, hk3, hke⟩ := w_k_hx H (c2 (w_k_wi3l h3).1)
      rw [hie, hke, w_k_nat (by omega), w_k_nat (by omega)]
      omega
def w_k_fx (s t : g_S) : Prop := ∀ x b, ¬ (w_k_sM x b ∧ ¬ (x = 199 ∧ b = 0)) → t x b = s x b
theorem w_e196_15 {t0 : g_S} {m : Nat} (hm : m < 256) : ∀ d i t, i + d = 13 → (∀ x, x ≠ 283 + m → t x = t0 x) → (∀ j, j < i → t (283 + m) j = t0 242 j) →
    ∃ u, f196_15L t (nI m) (nI i) = f196_30 u (nI m) ∧ (∀ x, x ≠ 283 + m → u x = t0 x) ∧ (∀ j, j < 13 → u (283 + m) j = t0 242 j)
  | 0, i, t, e, ht, h1 => by
    have e' : i = 13 := by omega
    subst e'
    rw [f196_15L_eq]; unfold f196_15
    rw [if_neg (by decide)]
    refine ⟨t, ?_, ht, h1⟩
    cases f196_30 t (nI m) <;> rfl
  | d + 1, i, t, e, ht, h1 => by
    rw [f196_15L_eq]; unfold f196_15
    rw [if_pos (show nI i < 13 from (w_k_lt (b := 13) (by omega) (by omega)).2 (by omega)), if_pos ((w_k_inI (by omega)).2 hm), if_pos (w_k_hin (by omega)), w_k_nat (by omega), w_k_nat (by omega), ht 242 (by omega), w_k_let, w_k_s1]
    refine w_e196_15 hm d (i + 1) _ (by omega) (fun x hx => by dsimp only; rw [w_k_wn hx, ht x hx]) (fun j hj => ?_)
    dsimp only
    by_cases e : j = i
    · subst e; rw [w_k_wv]
    · rw [w_k_wq (by omega)]; exact h1 j (by omega)
theorem w_m_196_2 {TR : w_k_TR} {A : w_k_A} {s : g_S} (hT : w_k_HH TR) (hA : w_k_Aok A) (H : w_k_MI TR s A) : ∀ d m t, m + d = 2 ^ w_k_qc A.2.2.2.1 → w_k_fx s t → w_k_MV t A.2.2.2.1 → (∀ b h, b < m → h < 13 → t (283 + b) h = w_o_cb A b h) →
    ∃ u, f196_2L t (nI m) = some u ∧ w_k_fx s u ∧ w_k_MV u A.2.2.2.1 ∧ (∀ b h, b < 2 ^ w_k_qc A.2.2.2.1 → h < 13 → u (283 + b) h = w_o_cb A b h)
  | 0, m, t, e, hf, hM, hc => by
    have hbd := w_k_Vb hA.2.2.2.1
    have hp := w_k_p8 hbd.2.1
    have e' : m = 2 ^ w_k_qc A.2.2.2.1 := by omega
    subst e'
    rw [f196_2L_eq]; unfold f196_2 f195
    rw [hM.1.2.2.2.2.2.1, w_k_qcI hA.2.2.2.1, w_k_sh1 _ (by omega), w_k_bs, if_neg (w_k_nlt (by omega) (by omega) (by omega))]
    exact ⟨t, rfl, hf, hM, hc⟩
  | d + 1, m, t, e, hf, hM, hc => by
    have hV := hA.2.2.2.1
    have hbd := w_k_Vb hV
    have hp := w_k_p8 hbd.2.1
    have hm : m < 256 := by omega
    rw [f196_2L_eq]; unfold f196_2 f195
    rw [hM.1.2.2.2.2.2.1, w_k_qcI hV, w_k_sh1 _ (by omega), w_k_bs, if_pos ((w_k_lt (by omega) (by omega)).2 (by omega))]
    obtain ⟨u1, p1, p2, p3, p4, p5, p6⟩ := w_e193 hV hm hM
    have hl := w_cs_lk (b := m) (V := A.2.2.2.1) (W := A.2.2.2.1) w_lk_rfl (n := w_k_qc A.2.2.2.1) (Nat.le_refl _)
    have hVb := w_v_cs (b := m) hV w_lk_rfl hV (w_k_qc A.2.2.2.1) (Nat.le_refl _)
    have w_e13 : u1 199 13 = A.2.2.2.1 4 := by rw [p6 199 13 (by omega)]; exact hM.1.2.2.2.2.1
    have hL : w_k_ML TR u1 (u1 199 13) (w_a_inf A) := by
      have h1 := w_m_inf hT hA H
      rw [H.2.2.2.1.1.2.2.2.2.1] at h1
      rw [w_e13]
      refine w_k_ML_cg h1 (fun x g1 g2 => funext fun c => ?_)
      rw [p6 x c (by omega), hf x c (by unfold w_k_sM; omega)]
    rw [p1, w_k_bs]
    obtain ⟨u2, q1, q2, q3⟩ := w_e182 hT.1 hVb hL p2
    rw [q1, w_k_bs]
    obtain ⟨u3, r1, r2, r3⟩ := w_e196_15 (t0 := u2) hm 13 0 u2 (by omega) (fun _ _ => rfl) (fun j hj => absurd hj (by omega))
    rw [show f196_15L u2 (nI m) 0 = _ from r1]
    unfold f196_30
    have hM2 : w_k_MV u2 (w_k_cs A.2.2.2.1 A.2.2.2.1 m (w_k_qc A.2.2.2.1)) := w_k_MV_cg p2 (fun x c hx => q3 x c (by unfold w_k_sE; unfold w_k_sM at hx; omega))
    have hM3 : w_k_MV u3 (w_k_cs A.2.2.2.1 A.2.2.2.1 m (w_k_qc A.2.2.2.1)) := w_k_MV_cg hM2 (fun x c hx => by unfold w_k_sM at hx; rw [r2 x (by omega)])
    obtain ⟨u4, z1, z2, z3⟩ := w_e194 hV hM3 (fun j hj => hl j (fun q hq h => by have := w_k_sl_m hV hq; rw [h] at this; exact hj this)) (by rw [r2 199 (by omega), q3 199 46 (by unfold w_k_sE; omega), p3]) (by rw [r2 199 (by omega), q3 199 47 (by unfold w_k_sE; omega), p4]) (fun g f hg hf => by rw [r2 (269 + g) (by omega), q3 _ _ (by unfold w_k_sE; omega), p5 g f hg hf])
    rw [z1, w_k_bs, w_k_s1]
    have hx4 : ∀ b h, u4 (283 + b) h = u3 (283 + b) h := fun b h => z3 _ _ (by omega)
    refine w_m_196_2 hT hA H d (m + 1) u4 (by omega) (fun x c hx => ?_) z2 (fun b h hb hh => ?_)
    · by_cases h1 : (x = 199 ∧ (c = 28 ∨ c = 29)) ∨ (225 ≤ x ∧ x < 238 ∧ c < 4)
      · rcases h1 with ⟨h1, h2 | h2⟩ | ⟨h1, h2, h3⟩
        · subst h1 h2; rw [z2.1.2.2.1, H.2.2.2.1.1.2.2.1]
        · subst h1 h2; rw [z2.1.2.2.2.1, H.2.2.2.1.1.2.2.2.1]
        · obtain ⟨g, rfl⟩ : ∃ g, x = 225 + g := ⟨x - 225, by omega⟩
          rw [z2.2.2.2.1 g c (by omega) h3, H.2.2.2.1.2.2.2.1 g c (by omega) h3]
      · have hx' := hx
        unfold w_k_sM at hx
        rw [z3 x c h1, r2 x (by omega), q3 x c (by unfold w_k_sE; omega), p6 x c (by omega)]
        exact hf x c hx'
    · rw [hx4]
      by_cases e : b = m
      · subst e; rw [r3 h hh]; exact (q2.2.1 h hh).2.2.2.1
      · rw [r2 (283 + b) (by omega), q3 _ _ (by unfold w_k_sE; omega), p6 _ _ (by omega)]
        exact hc b h (by omega) hh
theorem w_m_196 {TR : w_k_TR} {A : w_k_A} {s : g_S} (hT : w_k_HH TR) (hA : w_k_Aok A) (H : w_k_MI TR s A) : ∃ u, f196 (g_w s 199 0 0) = some u ∧ w_k_eM s u ∧ u 199 0 = 0 ∧ w_k_MV u A.2.2.2.1 ∧ (∀ b h, b < 2 ^ w_k_qc A.2.2.2.1 → h < 13 → u (283 + b) h = w_o_cb A b h) := by
  have H0 : w_k_MI TR (g_w s 199 0 0) A := w_k_MI_cg hA (fun x b h1 h2 h3 => by unfold w_k_sM at h3; rw [w_k_wq (by omega)]) H
  obtain ⟨u, q1, q2, q3, q4⟩ := w_m_196_2 hT hA H0 (2 ^ w_k_qc A.2.2.2.1) 0 (g_w s 199 0 0) (by omega) (fun _ _ _ => rfl) H0.2.2.2.1 (fun b h hb => absurd hb (by omega))
  unfold f196
  refine ⟨u, q1, fun x b hx => ?_, ?_, q3, q4⟩
  · rw [q2 x b (fun h => hx h.1)]; unfold w_k_sM at hx; rw [w_k_wq (by omega)]
  · rw [q2 199 0 (fun h => h.2 ⟨rfl, rfl⟩)]; exact w_k_00
