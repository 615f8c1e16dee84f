/-! numbers -/
section WN
variable {s : g_S} {T : Nat → Int32} {n o p : Nat} {e : Int32 × Nat}
theorem w_w_141 (s : g_S) (x : Int32) : f141 s x = some (w_q_b (w_t_dig x)) := by
  unfold f141 w_t_dig w_q_b
  by_cases h1 : x < 48
  · rw [if_pos h1, decide_eq_false (fun h => h.1 h1)]; rfl
  · rw [if_neg h1]
    by_cases h2 : 57 < x
    · rw [if_pos h2, decide_eq_false (fun h => h.2 h2)]; rfl
    · rw [if_neg h2, decide_eq_true ⟨h1, h2⟩]; rfl
theorem w_t_dig_n {x : Int32} (h : w_t_dig x = true) : ∃ k, k ≤ 9 ∧ x = nI (k + 48) := by
  have h := of_decide_eq_true h
  obtain ⟨k, h1, h2, h3⟩ := w_k_iI (a := 48) (b := 57) (by omega) (show w_k_wi x (nI 48) (nI 57) from h) (by omega)
  exact ⟨k - 48, by omega, by rw [h3]; congr 1; omega⟩
theorem w_t_B_dig : w_t_dig (w_t_B T n p) = true ↔ p < n ∧ w_t_dig (T p) = true := by
  unfold w_t_B; split
  · rename_i h; exact ⟨fun g => ⟨h, g⟩, fun g => g.2⟩
  · rename_i h; exact ⟨fun g => absurd g (by decide), fun g => absurd g.1 h⟩
theorem w_k_10 {v d : Nat} : 10 * nI v + nI (d + 48) - 48 = nI (10 * v + d) := by
  have g1 : nI (10 * v + d) = nI 10 * nI v + nI d := by rw [w_k_mul, w_k_add]
  have g2 : nI (d + 48) = nI d + nI 48 := by rw [w_k_add]
  rw [g1, g2]
  show nI 10 * nI v + (nI d + 48) - 48 = _
  grind
theorem w_k_min10 {v : Nat} (h : v < 2147483648) : g_min 10000 (nI v) = nI (if v < 10000 then v else 10000) := by
  unfold g_min
  by_cases g : v < 10000
  · rw [if_pos (show nI v < 10000 from (w_k_lt (b := 10000) h (by omega)).2 g), if_pos g]
  · rw [if_neg (show ¬ nI v < 10000 from w_k_nlt (b := 10000) h (by omega) g), if_neg g]; rfl
theorem w_w_142_18 {lo hi : Int32} {x : Int32} : ∀ k q (t : g_S) vM vC, n < q + k + 1 → q ≤ n → w_w_W t T n → t 199 4 = nI q → vM ≤ 100000 → vC = (if vM < 10000 then vM else 10000) → 
    ∃ u v, f142_18L t lo hi x (nI vM) = f142_49 u lo hi x (nI v) ∧ v ≤ 100000 ∧ w_t_nl T n k q (nI vC) = nI (if v < 10000 then v else 10000) ∧ u 199 4 = nI (w_t_run w_t_dig T n k q) ∧ w_w_a t u
  | 0, q, t, vM, vC, hk, hq, HW, h4, hv, hc => by
    have hn := HW.1
    refine ⟨t, vM, ?_, hv, by rw [← hc]; rfl, h4, w_w_ar⟩
    rw [f142_18L_eq]; unfold f142_18
    rw [h4, w_e138 HW (by omega), w_k_bs, w_w_141, w_k_bs]
    have : w_t_dig (w_t_B T n q) = false := Bool.eq_false_iff.2 fun g => by have := (w_t_B_dig.1 g).1; omega
    rw [this, if_pos (show w_q_b false = 0 from rfl)]
    cases f142_49 t lo hi x (nI vM) <;> rfl
  | k + 1, q, t, vM, vC, hk, hq, HW, h4, hv, hc => by
    have hn := HW.1
    rw [f142_18L_eq]; unfold f142_18 w_t_nl w_t_run
    rw [h4, w_e138 HW (by omega), w_k_bs, w_w_141, w_k_bs, w_k_bs]
    cases hd : w_t_dig (w_t_B T n q) with
    | false =>
      have hd' : ¬ (q < n ∧ w_t_dig (T q) = true) := fun g => by rw [w_t_B_dig.2 g] at hd; cases hd
      rw [if_pos (show w_q_b false = 0 from rfl), if_neg hd', if_neg hd']
      refine ⟨t, vM, ?_, hv, by rw [hc], h4, w_w_ar⟩
      cases f142_49 t lo hi x (nI vM) <;> rfl
    | true =>
      have hd' := w_t_B_dig.1 hd
      obtain ⟨d, h1, h2⟩ := w_t_dig_n hd'.2
      have hb : w_t_B T n q = nI (d + 48) := by unfold w_t_B; rw [if_pos hd'.1, h2]
      rw [if_neg (by decide), if_pos hd', if_pos hd', hb, h2, w_k_10, w_k_10, w_k_min10 (by split at hc <;> omega)]
      have hw : w_w_a t (g_w t 199 4 (t 199 4 + 1)) := fun y b hy => by rw [w_k_wq hy]
      have ih := fun v' c' => w_w_142_18 (lo := lo) (hi := hi) (x := x) k (q + 1) (g_w t 199 4 (t 199 4 + 1)) v' c' (by omega) (by omega) (w_w_Wa HW (w_w_a4 hw)) (by rw [w_k_wv, h4, w_k_s1])
      by_cases hb2 : 100000 < 10 * vM + d
      · rw [if_pos (show (100000 : Int32) < nI (10 * vM + d) from (w_k_lt (a := 100000) (by omega) (by omega)).2 hb2)]
        unfold f142_41
        rw [w_k_let]
        obtain ⟨u, v, r1, r2, r3, r4, r5⟩ := ih 100000 10000 (by omega) rfl
        have ec : (if 10 * vC + d < 10000 then 10 * vC + d else 10000) = 10000 := by
          rw [if_neg]; rw [hc]; split <;> omega
        rw [ec]
        exact ⟨u, v, r1, r2, r3, r4, w_w_at hw r5⟩
      · rw [if_neg (show ¬ (100000 : Int32) < nI (10 * vM + d) from w_k_nlt (a := 100000) (by omega) (by omega) hb2)]
        unfold f142_41
        rw [w_k_let]
        obtain ⟨u, v, r1, r2, r3, r4, r5⟩ := ih (10 * vM + d) (if 10 * vC + d < 10000 then 10 * vC + d else 10000) (by omega) (by
          by_cases g : vM < 10000
          · rw [hc, if_pos g]
          · rw [hc, if_neg g, if_neg (by omega), if_neg (by omega)])
        exact ⟨u, v, r1, r2, r3, r4, w_w_at hw r5⟩
theorem w_t_kd_d (hB : ∀ j, j < n → w_k_wi (T j) 0 255) : w_t_kd T n p = 257 → p < n ∧ w_t_dig (T p) = true ∧ w_t_te T n p = w_t_run w_t_dig T n n p := by
  unfold w_t_kd w_t_te
  intro h
  by_cases g : p < n
  · rw [if_pos g] at h ⊢
    split at h
    · exact absurd h (by decide)
    · rename_i g1
      split at h
      · rename_i g2
        rw [if_neg g1, if_pos g2]; exact ⟨g, g2, rfl⟩
      · rename_i g2
        obtain ⟨k, _, h2, h3⟩ := w_k_iI (a := 0) (b := 255) (by omega) (hB p g) (by omega)
        rw [h3] at h
        have := (w_k_eq (a := k) (b := 257) (by omega) (by omega)).1 h
        omega
  · rw [if_neg g] at h; exact absurd h (by decide)
theorem w_t_dig_kd (h : p < n ∧ w_t_dig (T p) = true) : w_t_kd T n p = 257 := by
  unfold w_t_kd
  rw [if_pos h.1, if_neg, if_pos h.2]
  intro g
  obtain ⟨d, h1, h2⟩ := w_t_dig_n h.2
  obtain ⟨k, h3, h4, h5⟩ := w_t_let_n g
  rw [h2] at h5
  have := (w_k_eq (by omega) (by omega)).1 h5
  omega
theorem w_k_wiI {a b c : Nat} (ha : a < 2147483648) (hb : b < 2147483648) (hc : c < 2147483648) : w_k_wi (nI a) (nI b) (nI c) ↔ b ≤ a ∧ a ≤ c := by
  unfold w_k_wi
  rw [w_k_lt ha hb, w_k_lt hc ha]; omega
theorem w_w_142 {lo hi : Nat} (h1 : hi ≤ 9999) (h2 : lo ≤ 9999) (H : w_w_U T n o p s) : w_OK (f142 s (nI lo) (nI hi)) fun w => w_w_4 s w.2 ∧
    ((w_t_kd T n p = 257 ∧ w_k_wi (w_t_num T n p) (nI lo) (nI hi) ∧ w.1 = w_t_num T n p ∧ w_w_U T n o (w_t_nx T n p) w.2) ∨ (w_t_kd T n p = 257 ∧ ¬ w_k_wi (w_t_num T n p) (nI lo) (nI hi) ∧ w_w_X 0 T n (2, p) w.2) ∨ (¬ w_t_kd T n p = 257 ∧ w_w_X 0 T n (1, p) w.2)) := by
  obtain ⟨t, q1, q2, q3, q4⟩ := w_w_139 H
  have hp := w_w_Up H
  have hn := H.1.1
  unfold f142
  rw [q1, w_k_bs, w_w_138 q2 q3, w_k_bs, w_w_141, w_k_bs]
  cases hd : w_t_dig (w_t_B T n p) with
  | false =>
    have hk : ¬ w_t_kd T n p = 257 := fun g => by
      have := w_t_kd_d H.1.2.1 g
      rw [w_t_B_dig.2 ⟨this.1, this.2.1⟩] at hd; cases hd
    rw [if_pos (show w_q_b false = 0 from rfl)]
    obtain ⟨u, r1, r2, r3, r4, _⟩ := w_w_140 (f := 1) q2 (by decide) q3
    rw [r1, w_k_bs]
    obtain ⟨u', v, p1, p2, p3, p4, p5⟩ := w_w_142_18 (lo := nI lo) (hi := nI hi) (x := t 199 4) n p u 0 0 (by omega) hp.1 r2.1 (by rw [r4, q3]) (by omega) rfl
    rw [show f142_18L u (nI lo) (nI hi) (t 199 4) 0 = _ from p1]
    have hX : w_w_X 0 T n (1, p) u' := w_w_Xa r2 p5 p4 (w_t_run_n1 (by omega))
    unfold f142_49
    rw [w_e135, w_k_bs]
    have h4 : w_w_4 s u' := w_w_4t (w_w_a4 q4) (w_w_4t r3 (w_w_a4 p5))
    by_cases g : w_k_wi (nI v) (nI lo) (nI hi)
    · rw [w_k_ift g, if_neg (by decide)]
      exact ⟨_, rfl, h4, Or.inr (Or.inr ⟨hk, hX⟩)⟩
    · rw [w_k_iff g, if_pos rfl, w_x_140 hX]
      exact ⟨_, rfl, h4, Or.inr (Or.inr ⟨hk, hX⟩)⟩
  | true =>
    have hk := w_t_dig_kd (w_t_B_dig.1 hd)
    rw [if_neg (by decide)]
    obtain ⟨u', v, p1, p2, p3, p4, p5⟩ := w_w_142_18 (lo := nI lo) (hi := nI hi) (x := t 199 4) n p t 0 0 (by omega) hp.1 q2.1 q3 (by omega) rfl
    rw [show f142_18L t (nI lo) (nI hi) (t 199 4) 0 = _ from p1]
    have hte := (w_t_kd_d H.1.2.1 hk).2.2
    have hle := w_t_te_le (T := T) hp.1
    have hU : w_w_U T n o (w_t_nx T n p) u' := w_w_Ua q2 p5 p4 (by omega) (by unfold w_t_nx; rw [hte])
    have hnum : w_t_num T n p = nI (if v < 10000 then v else 10000) := p3
    have h4 : w_w_4 s u' := w_w_4t (w_w_a4 q4) (w_w_a4 p5)
    unfold f142_49
    rw [w_e135, w_k_bs, hnum]
    by_cases g : lo ≤ v ∧ v ≤ hi
    · rw [w_k_ift ((w_k_wiI (by omega) (by omega) (by omega)).2 g), if_neg (by decide)]
      refine ⟨_, rfl, h4, Or.inl ⟨hk, ?_, ?_, hU⟩⟩
      · rw [if_pos (by omega)]; exact (w_k_wiI (by omega) (by omega) (by omega)).2 g
      · rw [if_pos (by omega)]
    · rw [w_k_iff (fun e => g ((w_k_wiI (by omega) (by omega) (by omega)).1 e)), if_pos rfl]
      obtain ⟨u, r1, r2, r3, r4, _⟩ := w_w_140 (f := 2) (x := t 199 4) hU (by decide) q3
      rw [r1]
      refine ⟨_, rfl, w_w_4t h4 r3, Or.inr (Or.inl ⟨hk, ?_, r2⟩)⟩
      rw [w_k_wiI (by split <;> omega) (by omega) (by omega)]
      split <;> omega
end WN
/-! the walks' expressions: loops -/
section WE
variable {T : Nat → Int32} {n d : Nat}
def w_w_pu (nm : Nat → Int32) (m : Nat) (xs : List Int32) (v : Int32) : Prop := ∀ st : List Int32, st.length ≤ m → xs.foldl (w_q_step nm) st = v :: st
def w_k_WR (d : Nat) (P : Int32 → Prop) (T : Nat → Int32) (n m o p0 : Nat) (s : g_S) (R : w_t_R) (w : Int32 × g_S) : Prop := P w.1 ∧ w_w_4 s w.2 ∧ match R with
  | .inl e => w_w_X d T n e w.2
  | .inr (q, xs) => w_w_U T n o q w.2 ∧ p0 ≤ q ∧ w_w_pu (s 207) m xs w.1
def w_k_WX (P : Int32 → Prop) (T : Nat → Int32) (n : Nat) (F : g_S → Option (Int32 × g_S)) : Prop := ∀ d e s, w_w_X d T n e s → w_OK (F s) fun w => P w.1 ∧ w_w_4 s w.2 ∧ w_w_X d T n e w.2
def w_k_WS (d : Nat) (P : Int32 → Prop) (T : Nat → Int32) (n m o : Nat) (F : g_S → Option (Int32 × g_S)) (φ : Nat → Nat → w_t_R) : Prop :=
  ∀ p s, w_w_U T n o p s → w_OK (F s) (w_k_WR d P T n m o p s (φ p o))
theorem w_w_207 {s u : g_S} (h : w_w_4 s u) : u 207 = s 207 := funext fun b => h 207 b (by omega)
theorem w_w_pu_s {s u : g_S} {m : Nat} {xs : List Int32} {v : Int32} (h : w_w_4 s u) (g : w_w_pu (u 207) m xs v) : w_w_pu (s 207) m xs v := by rw [← w_w_207 h]; exact g
def w_k_K (Z : Nat → g_S → Prop) (T : Nat → Int32) (n : Nat) (K : g_S → Option g_S) : Prop := (∀ o p s, w_w_U T n o p s → ∃ u, K s = some u ∧ w_w_U T n o p u ∧ w_w_4 s u ∧ Z p u) ∧ ∀ d e s, w_w_X d T n e s → ∃ u, K s = some u ∧ w_w_X d T n e u ∧ w_w_4 s u
def w_k_Z4 (p : Nat) (s : g_S) : Prop := s 199 4 = nI p
def w_k_ZT (_ : Nat) (_ : g_S) : Prop := True
theorem w_K_139 : w_k_K w_k_Z4 T n f139 := ⟨fun o p s H => by
  obtain ⟨u, h1, h2, h4, h3⟩ := w_w_139 H
  exact ⟨u, h1, h2, w_w_a4 h3, h4⟩, fun d e s H => w_x_139 H⟩
theorem w_K_id : w_k_K w_k_ZT T n some := ⟨fun o p s H => ⟨s, rfl, H, w_w_4r, trivial⟩, fun d e s H => ⟨s, rfl, H, w_w_4r⟩⟩
def w_k_sgok (sg : Nat → Option Int32) (n : Nat) : Prop := ∀ p c, sg p = some c → p < n ∧ ∀ (nm : Nat → Int32) (b a : Int32) (r : List Int32), w_q_step nm (b :: a :: r) c = w_q_join c a b :: r
theorem w_w_lp {P : Int32 → Prop} {sg : Nat → Option Int32} {φ : Nat → Nat → w_t_R} {F : g_S → Option (Int32 × g_S)} {Z : Nat → g_S → Prop} {K : g_S → Option g_S} {L : g_S → Int32 → Option (Int32 × g_S)} {o m m' : Nat} (hm : m' + 1 ≤ m)
    (hF : w_k_WS d P T n m o F φ) (hK : w_k_K Z T n K) (hsg : w_k_sgok sg n)
    (hX : ∀ d e s x, P x → w_w_X d T n e s → w_OK (L s x) fun w => P w.1 ∧ w_w_4 s w.2 ∧ w_w_X d T n e w.2)
    (hN : ∀ p s x, P x → w_w_U T n o p s → Z p s → sg p = none → ∃ u, L s x = some (x, u) ∧ w_w_U T n o p u ∧ w_w_4 s u)
    (hC : ∀ p s x c, P x → w_w_U T n o p s → Z p s → sg p = some c → ∃ t K', w_w_U T n o (w_t_nx T n p) t ∧ w_w_4 s t ∧ L s x = g_bd (F t) K' ∧ ∀ v s4, P v → P (w_q_join c x v) ∧ K' v s4 = (K s4).bind fun s2 => L s2 (w_q_join c x v)) :
    ∀ k p p0 (s0 s : g_S) x xs, n ≤ p + k → p0 ≤ p → w_w_U T n o p s → Z p s → w_w_4 s0 s → P x → w_w_pu (s0 207) m' xs x → w_OK (L s x) (w_k_WR d P T n m' o p0 s0 (w_t_lp T n sg φ k p o xs))
  | 0, p, p0, s0, s, x, xs, hk, hp0, HU, hZ, h0, hx, hpu => by
    have hs : sg p = none := by
      cases h : sg p with
      | none => rfl
      | some c => have := (hsg p c h).1; omega
    obtain ⟨u, r1, r2, r3⟩ := hN p s x hx HU hZ hs
    exact ⟨_, r1, hx, w_w_4t h0 r3, r2, hp0, hpu⟩
  | k + 1, p, p0, s0, s, x, xs, hk, hp0, HU, hZ, h0, hx, hpu => by
    unfold w_t_lp
    cases h : sg p with
    | none =>
      obtain ⟨u, r1, r2, r3⟩ := hN p s x hx HU hZ h
      exact ⟨_, r1, hx, w_w_4t h0 r3, r2, hp0, hpu⟩
    | some c =>
      obtain ⟨hpn, hst⟩ := hsg p c h
      obtain ⟨t, K', t1, t2, t3, t4⟩ := hC p s x c hx HU hZ h
      obtain ⟨⟨v, s4⟩, w1, w2, w3, w4⟩ := hF _ t t1
      rw [t3, w1, w_k_bd]
      obtain ⟨g1, g2⟩ := t4 v s4 w2
      rw [g2]
      have h04 : w_w_4 s0 s4 := w_w_4t h0 (w_w_4t t2 w3)
      dsimp only
      cases hφ : φ (w_t_nx T n p) o with
      | inl e =>
        rw [hφ] at w4
        obtain ⟨u, r1, r2, r3⟩ := hK.2 _ e s4 w4
        rw [r1, w_k_bs]
        obtain ⟨w, z1, z2, z3, z4⟩ := hX _ e u _ g1 r2
        exact ⟨w, z1, z2, w_w_4t h04 (w_w_4t r3 z3), z4⟩
      | inr qy =>
        obtain ⟨q, ys⟩ := qy
        rw [hφ] at w4
        obtain ⟨w5, hq, w6⟩ := w4
        obtain ⟨u, r1, r2, r3, r4⟩ := hK.1 o q s4 w5
        rw [r1, w_k_bs]
        have hlt := w_t_nx_lt (T := T) hpn
        refine w_w_lp hm hF hK hsg hX hN hC k q p0 s0 u _ _ (by omega) (by omega) r2 r4 (w_w_4t h04 r3) g1 ?_
        intro st hst2
        have w_e1 : t 207 = s0 207 := w_w_207 (w_w_4t h0 t2)
        rw [List.foldl_append, List.foldl_append, hpu st hst2, ← w_e1, w6 (x :: st) (by simp only [List.length_cons]; omega)]
        show w_q_step (t 207) (v :: x :: st) c = _
        exact hst _ _ _ _
theorem w_w_bin {P : Int32 → Prop} {sg : Nat → Option Int32} {φ : Nat → Nat → w_t_R} {F : g_S → Option (Int32 × g_S)} {Z : Nat → g_S → Prop} {K : g_S → Option g_S} {L : g_S → Int32 → Option (Int32 × g_S)} {o m m' : Nat} (hm : m' + 1 ≤ m)
    (hF : w_k_WS d P T n m o F φ) (hK : w_k_K Z T n K) (hsg : w_k_sgok sg n)
    (hX : ∀ d e s x, P x → w_w_X d T n e s → w_OK (L s x) fun w => P w.1 ∧ w_w_4 s w.2 ∧ w_w_X d T n e w.2)
    (hN : ∀ p s x, P x → w_w_U T n o p s → Z p s → sg p = none → ∃ u, L s x = some (x, u) ∧ w_w_U T n o p u ∧ w_w_4 s u)
    (hC : ∀ p s x c, P x → w_w_U T n o p s → Z p s → sg p = some c → ∃ t K', w_w_U T n o (w_t_nx T n p) t ∧ w_w_4 s t ∧ L s x = g_bd (F t) K' ∧ ∀ v s4, P v → P (w_q_join c x v) ∧ K' v s4 = (K s4).bind fun s2 => L s2 (w_q_join c x v)) :
    w_k_WS d P T n m' o (fun s => g_bd (F s) fun v s2 => (K s2).bind fun s4 => L s4 v) (w_t_bin T n sg φ) := by
  intro p s HU
  obtain ⟨⟨v, s4⟩, w1, w2, w3, w4⟩ := hF p s HU
  unfold w_t_bin
  dsimp only
  rw [w1, w_k_bd]
  cases hφ : φ p o with
  | inl e =>
    rw [hφ] at w4
    obtain ⟨u, r1, r2, r3⟩ := hK.2 _ e s4 w4
    rw [r1, w_k_bs]
    obtain ⟨w, z1, z2, z3, z4⟩ := hX _ e u _ w2 r2
    exact ⟨w, z1, z2, w_w_4t w3 (w_w_4t r3 z3), z4⟩
  | inr qy =>
    obtain ⟨q, ys⟩ := qy
    rw [hφ] at w4
    obtain ⟨w5, hq, w6⟩ := w4
    obtain ⟨u, r1, r2, r3, r4⟩ := hK.1 o q s4 w5
    rw [r1, w_k_bs]
    refine w_w_lp hm hF hK hsg hX hN hC n q p s u v ys (by omega) hq r2 r4 (w_w_4t w3 r3) w2 ?_
    exact fun st hst => w6 st (by omega)
theorem w_x_bin {P : Int32 → Prop} {F : g_S → Option (Int32 × g_S)} {Z : Nat → g_S → Prop} {K : g_S → Option g_S} {L : g_S → Int32 → Option (Int32 × g_S)}
    (hF : w_k_WX P T n F) (hK : w_k_K Z T n K)
    (hX : ∀ d e s x, P x → w_w_X d T n e s → w_OK (L s x) fun w => P w.1 ∧ w_w_4 s w.2 ∧ w_w_X d T n e w.2) : w_k_WX P T n (fun s => g_bd (F s) fun v s2 => (K s2).bind fun s4 => L s4 v) := by
  intro d e s H
  obtain ⟨⟨v, s4⟩, w1, w2, w3, w4⟩ := hF _ e s H
  dsimp only
  rw [w1, w_k_bd]
  obtain ⟨u, r1, r2, r3⟩ := hK.2 _ e s4 w4
  rw [r1, w_k_bs]
  obtain ⟨w, z1, z2, z3, z4⟩ := hX _ e u _ w2 r2
  exact ⟨w, z1, z2, w_w_4t w3 (w_w_4t r3 z3), z4⟩
def w_k_PT (_ : Int32) : Prop := True
def w_k_PB (x : Int32) : Prop := x = 0 ∨ x = 1
theorem w_q_op (nm : Nat → Int32) (b a : Int32) (r : List Int32) {c : Int32} (h1 : ¬ c < 8) (h2 : c < 256) (h3 : ¬ c = 33) : w_q_step nm (b :: a :: r) c = w_q_join c a b :: r := by
  unfold w_q_step; rw [if_neg h1, if_pos h2, if_neg h3]
theorem w_sg_P : w_k_sgok (w_t_sP T n) n := fun p c h => by
  refine ⟨(w_sP_ok p c h).1, fun nm b a r => ?_⟩
  unfold w_t_sP at h
  split at h
  · rename_i g
    cases h
    rcases g with g | g <;> rw [g] <;> exact w_q_op nm b a r (by decide) (by decide) (by decide)
  · cases h
theorem w_sg_S : w_k_sgok (w_t_sS T n) n := fun p c h => by
  refine ⟨(w_sS_ok p c h).1, fun nm b a r => ?_⟩
  unfold w_t_sS at h
  split at h
  · rename_i g
    cases h
    rcases g with g | g <;> rw [g] <;> exact w_q_op nm b a r (by decide) (by decide) (by decide)
  · cases h
theorem w_sg_A : w_k_sgok (w_t_sA T n) n := fun p c h => by
  refine ⟨(w_sA_ok p c h).1, fun nm b a r => ?_⟩
  unfold w_t_sA at h
  split at h
  · cases h; exact w_q_op nm b a r (by decide) (by decide) (by decide)
  · cases h
theorem w_sg_O : w_k_sgok (w_t_sO T n) n := fun p c h => by
  refine ⟨(w_sO_ok p c h).1, fun nm b a r => ?_⟩
  unfold w_t_sO at h
  split at h
  · cases h; exact w_q_op nm b a r (by decide) (by decide) (by decide)
  · cases h
theorem w_x_152_5 {F : g_S → Option (Int32 × g_S)} (d : Nat) (e : Int32 × Nat) (s : g_S) (x : Int32) (_ : w_k_PT x) (H : w_w_X d T n e s) : w_OK (f152_5L F s x) fun w => w_k_PT w.1 ∧ w_w_4 s w.2 ∧ w_w_X d T n e w.2 := by
  rw [f152_5L_eq]; unfold f152_5
  rw [if_neg (by rw [H.2.2.1]; exact H.2.1)]
  exact ⟨_, rfl, trivial, w_w_4r, H⟩
theorem w_sg42 : w_w_sg 42 := by unfold w_w_sg; decide
theorem w_sg47 : w_w_sg 47 := by unfold w_w_sg; decide
theorem w_sg43 : w_w_sg 43 := by unfold w_w_sg; decide
theorem w_sg45 : w_w_sg 45 := by unfold w_w_sg; decide
theorem w_sg60 : w_w_sg 60 := by unfold w_w_sg; decide
theorem w_sg61 : w_w_sg 61 := by unfold w_w_sg; decide
theorem w_sg62 : w_w_sg 62 := by unfold w_w_sg; decide
theorem w_sg40 : w_w_sg 40 := by unfold w_w_sg; decide
theorem w_sg41 : w_w_sg 41 := by unfold w_w_sg; decide
theorem w_sg44 : w_w_sg 44 := by unfold w_w_sg; decide
theorem w_sg59 : w_w_sg 59 := by unfold w_w_sg; decide
theorem w_sg91 : w_w_sg 91 := by unfold w_w_sg; decide
theorem w_sg93 : w_w_sg 93 := by unfold w_w_sg; decide
theorem w_sgP2 {c : Int32} (h : c = 42 ∨ c = 47) : w_w_sg c := by rcases h with h | h <;> rw [h] <;> first | exact w_sg42 | exact w_sg47
theorem w_sgS2 {c : Int32} (h : c = 43 ∨ c = 45) : w_w_sg c := by rcases h with h | h <;> rw [h] <;> first | exact w_sg43 | exact w_sg45
theorem w_w_prod {F : g_S → Option (Int32 × g_S)} {φ : Nat → Nat → w_t_R} {m m' o : Nat} (hm : m' + 1 ≤ m) (hF : w_k_WS d w_k_PT T n m o F φ) : w_k_WS d w_k_PT T n m' o (f152 F) (w_t_prod T n φ) := by
  refine w_w_bin (L := f152_5L F) hm hF w_K_139 w_sg_P w_x_152_5 (fun p s x _ H hZ h => ?_) (fun p s x c _ H hZ h => ?_)
  · unfold w_t_sP at h
    have h : ¬ (w_t_kd T n p = 42 ∨ w_t_kd T n p = 47) := fun g => by rw [if_pos g] at h; cases h
    rw [f152_5L_eq]; unfold f152_5
    rw [if_pos H.2.1, w_w_138 H hZ, w_k_bs, w_k_bs, if_neg (fun g => h (Or.inl ((w_w_B w_sg42).1 g))), if_neg (fun g => h (Or.inr ((w_w_B w_sg47).1 g)))]
    exact ⟨s, rfl, H, w_w_4r⟩
  · have hc : w_t_kd T n p = c ∧ (c = 42 ∨ c = 47) := by
      unfold w_t_sP at h
      split at h
      · rename_i g; cases h; exact ⟨rfl, g⟩
      · cases h
    have hB : w_t_B T n p = c := (w_w_B (w_sgP2 hc.2)).2 hc.1
    obtain ⟨g1, g2⟩ := w_w_p1 H hZ (w_sgP2 hc.2) hc.1
    refine ⟨_, fun v s4 => if c = 42 then (f139 s4).bind fun s2 => f152_5L F s2 (x * v) else if v = 0 then (f139 s4).bind fun s2 => f152_5L F s2 0 else (f139 s4).bind fun s2 => f152_5L F s2 (x / v), g1, w_w_a4 g2, ?_, fun v s4 _ => ⟨trivial, ?_⟩⟩
    · rw [f152_5L_eq]; unfold f152_5
      rw [if_pos H.2.1, w_w_138 H hZ, w_k_bs, w_k_bs, hB]
      have e : (if c = 42 then f152_20 F s x else if c = 47 then f152_20 F s x else some (.inr (x, s))) = f152_20 F s x := by
        rcases hc.2 with e | e <;> rw [e] <;> rfl
      rw [e]
      unfold f152_20
      rw [w_w_138 H hZ, w_k_bs, w_k_let, hB]
      cases F (g_w s 199 4 (s 199 4 + 1)) with
      | none => rfl
      | some w =>
        obtain ⟨v, s4⟩ := w
        rw [w_k_bd, w_k_bd]
        unfold f152_48
        split
        · cases f139 s4 <;> rfl
        · split
          · cases f139 s4 <;> rfl
          · cases f139 s4 <;> rfl
    · rcases hc.2 with e | e <;> rw [e]
      · rfl
      · dsimp only
        rw [if_neg (show ¬ (47 : Int32) = 42 by decide), show w_q_join 47 x v = if v = 0 then 0 else x / v from rfl]
        by_cases g : v = 0
        · rw [if_pos g, if_pos g]
        · rw [if_neg g, if_neg g]
theorem w_x_prod {F : g_S → Option (Int32 × g_S)} (hF : w_k_WX w_k_PT T n F) : w_k_WX w_k_PT T n (f152 F) := w_x_bin (L := f152_5L F) hF w_K_139 w_x_152_5
theorem w_x_153_5 {F : g_S → Option (Int32 × g_S)} (d : Nat) (e : Int32 × Nat) (s : g_S) (x : Int32) (_ : w_k_PT x) (H : w_w_X d T n e s) : w_OK (f153_5L F s x) fun w => w_k_PT w.1 ∧ w_w_4 s w.2 ∧ w_w_X d T n e w.2 := by
  rw [f153_5L_eq]; unfold f153_5
  rw [if_neg (by rw [H.2.2.1]; exact H.2.1)]
  exact ⟨_, rfl, trivial, w_w_4r, H⟩
theorem w_w_sum {F : g_S → Option (Int32 × g_S)} {φ : Nat → Nat → w_t_R} {m m' o : Nat} (hm : m' + 2 ≤ m) (hF : w_k_WS d w_k_PT T n m o F φ) : w_k_WS d w_k_PT T n m' o (f153 F) (w_t_sum T n φ) := by
  refine w_w_bin (L := f153_5L F) (Nat.le_refl (m' + 1)) (w_w_prod hm hF) w_K_139 w_sg_S w_x_153_5 (fun p s x _ H hZ h => ?_) (fun p s x c _ H hZ h => ?_)
  · unfold w_t_sS at h
    have h : ¬ (w_t_kd T n p = 43 ∨ w_t_kd T n p = 45) := fun g => by rw [if_pos g] at h; cases h
    rw [f153_5L_eq]; unfold f153_5
    rw [if_pos H.2.1, w_w_138 H hZ, w_k_bs, w_k_bs, if_neg (fun g => h (Or.inl ((w_w_B w_sg43).1 g))), if_neg (fun g => h (Or.inr ((w_w_B w_sg45).1 g)))]
    exact ⟨s, rfl, H, w_w_4r⟩
  · have hc : w_t_kd T n p = c ∧ (c = 43 ∨ c = 45) := by
      unfold w_t_sS at h
      split at h
      · rename_i g; cases h; exact ⟨rfl, g⟩
      · cases h
    have hB : w_t_B T n p = c := (w_w_B (w_sgS2 hc.2)).2 hc.1
    obtain ⟨g1, g2⟩ := w_w_p1 H hZ (w_sgS2 hc.2) hc.1
    refine ⟨_, fun v s4 => if c = 43 then (f139 s4).bind fun s2 => f153_5L F s2 (x + v) else (f139 s4).bind fun s2 => f153_5L F s2 (x - v), g1, w_w_a4 g2, ?_, fun v s4 _ => ⟨trivial, ?_⟩⟩
    · rw [f153_5L_eq]; unfold f153_5
      rw [if_pos H.2.1, w_w_138 H hZ, w_k_bs, w_k_bs, hB]
      have e : (if c = 43 then f153_20 F s x else if c = 45 then f153_20 F s x else some (.inr (x, s))) = f153_20 F s x := by
        rcases hc.2 with e | e <;> rw [e] <;> rfl
      rw [e]
      unfold f153_20
      rw [w_w_138 H hZ, w_k_bs, w_k_let, hB]
      cases f152 F (g_w s 199 4 (s 199 4 + 1)) with
      | none => rfl
      | some w =>
        obtain ⟨v, s4⟩ := w
        rw [w_k_bd, w_k_bd]
        unfold f153_44
        split <;> cases f139 s4 <;> rfl
    · rcases hc.2 with e | e <;> rw [e] <;> rfl
theorem w_x_sum {F : g_S → Option (Int32 × g_S)} (hF : w_k_WX w_k_PT T n F) : w_k_WX w_k_PT T n (f153 F) := w_x_bin (L := f153_5L F) (w_x_prod hF) w_K_139 w_x_153_5
end WE
