/-! lists of harms and terms, as the walk reads them -/
theorem w_k_and1 (x : Int32) : x &&& 1 = 0 ∨ x &&& 1 = 1 := by
  have h : ∀ b : BitVec 32, b &&& 1#32 = 0#32 ∨ b &&& 1#32 = 1#32 := by
    intro b
    have h1 : (b &&& 1#32).toNat = b.toNat % 2 := by
      rw [BitVec.toNat_and]; exact Nat.and_one_is_mod _
    rcases Nat.mod_two_eq_zero_or_one b.toNat with g | g
    · exact Or.inl (BitVec.eq_of_toNat_eq (by rw [h1, g]; rfl))
    · exact Or.inr (BitVec.eq_of_toNat_eq (by rw [h1, g]; rfl))
  rcases h x.toBitVec with g | g
  · exact Or.inl (Int32.toBitVec_inj.1 (by rw [Int32.toBitVec_and]; exact g))
  · exact Or.inr (Int32.toBitVec_inj.1 (by rw [Int32.toBitVec_and]; exact g))
theorem w_q_bit_or (a b e : Int32) : w_q_bit (a ||| b) e = (w_q_bit a e || w_q_bit b e) := by
  unfold w_q_bit
  have h : ((a ||| b) >>> (e &&& 31)) &&& 1 = (((a >>> (e &&& 31)) &&& 1) ||| ((b >>> (e &&& 31)) &&& 1)) := by
    rw [Int32.shiftRight_or]
    apply Int32.toBitVec_inj.1
    rw [Int32.toBitVec_and, Int32.toBitVec_or, Int32.toBitVec_or, Int32.toBitVec_and, Int32.toBitVec_and]
    exact BitVec.and_or_distrib_right
  rw [h]
  rcases w_k_and1 (a >>> (e &&& 31)) with h1 | h1 <;> rcases w_k_and1 (b >>> (e &&& 31)) with h2 | h2 <;> rw [h1, h2] <;> rfl
theorem w_q_bit0 (e : Int32) : w_q_bit 0 e = false := by
  unfold w_q_bit; rw [Int32.zero_shiftRight]; rfl
theorem w_q_bits : ∀ w, w < 7 → ∀ h, h < 6 → w_q_bit (w_t_bits (nI w)) (nI h) = decide (nI w = 6 ∨ nI w = nI h) := by decide
theorem w_q_terms : ∀ w, w < 4 → ∀ h, h < 4 → w_q_bit ((1 : Int32) <<< (nI w &&& 31)) (nI h) = decide (nI w = nI h) := by decide
section WL
variable {T : Nat → Int32} {n : Nat}
def w_k_WB (V : Int32 → Int32 → Prop) (T : Nat → Int32) (n p0 : Nat) (s : g_S) (R : w_t_RB) (w : Int32 × g_S) : Prop := w_k_PB w.1 ∧ w_w_4 s w.2 ∧ match R with
  | .inl e => w_w_X 0 T n e w.2
  | .inr (q, th) => w_w_U T n 0 q w.2 ∧ p0 ≤ q ∧ V th w.1
def w_w_cm (T : Nat → Int32) (n q : Nat) : Nat := if w_t_kd T n q = 44 then w_t_nx T n q else q
theorem w_w_ll {J : g_S → Prop} {V : Int32 → Int32 → Prop} {item : Nat → w_t_RB} {L : g_S → Int32 → Int32 → Option (Int32 × g_S)}
    (hJ : ∀ s u, w_w_4 s u → J s → J u) (h0 : ∀ s x, w_k_PB x → L s x 0 = some (x, s))
    (hX : ∀ e s x z, w_k_PB x → z = 0 ∨ z = 1 → w_w_X 0 T n e s → w_OK (L s x z) fun w => w_k_PB w.1 ∧ w_w_4 s w.2 ∧ w_w_X 0 T n e w.2)
    (hI : ∀ p s x th, w_w_U T n 0 p s → J s → w_k_PB x → V th x → match item p with
      | .inl e => ∃ u y z, L s x 1 = L u y z ∧ w_w_X 0 T n e u ∧ w_w_4 s u ∧ w_k_PB y ∧ (z = 0 ∨ z = 1)
      | .inr (q, b) => p < q ∧ ∃ u y, L s x 1 = L u y (if w_t_kd T n q = 44 then 1 else 0) ∧ w_w_U T n 0 (w_w_cm T n q) u ∧ w_w_4 s u ∧ w_k_PB y ∧ V (th ||| b) y) :
    ∀ k p p0 (s0 s : g_S) x th, n ≤ p + k → p0 ≤ p → w_w_U T n 0 p s → J s → w_w_4 s0 s → w_k_PB x → V th x → w_OK (L s x 1) (w_k_WB V T n p0 s0 (match item p with
      | .inl e => .inl e
      | .inr (q, b) => w_t_ll T n item k q (th ||| b)))
  | k, p, p0, s0, s, x, th, hk, hp, H, hj, h4, hx, hV => by
    have hi := hI p s x th H hj hx hV
    cases hR : item p with
    | inl e =>
      rw [hR] at hi
      obtain ⟨u, y, z, a1, a2, a3, a4, a5⟩ := hi
      rw [a1]
      obtain ⟨w, z1, z2, z3, z4⟩ := hX e u y z a4 a5 a2
      exact ⟨w, z1, z2, w_w_4t h4 (w_w_4t a3 z3), z4⟩
    | inr qb =>
      obtain ⟨q, b⟩ := qb
      rw [hR] at hi
      obtain ⟨hpq, u, y, a1, a2, a3, a4, a5⟩ := hi
      have huq : q ≤ n := by
        have h := (w_w_Up a2).1
        unfold w_w_cm at h
        by_cases g : w_t_kd T n q = 44
        · exact Nat.le_of_lt (w_t_kdn (by rw [g]; decide))
        · rw [if_neg g] at h; exact h
      rw [a1]
      dsimp only
      have stop : ¬ w_t_kd T n q = 44 → w_OK (L u y (if w_t_kd T n q = 44 then 1 else 0)) (w_k_WB V T n p0 s0 (.inr (q, th ||| b))) := fun g => by
        unfold w_w_cm at a2
        rw [if_neg g] at a2 ⊢
        rw [h0 u y a4]
        exact ⟨_, rfl, a4, w_w_4t h4 a3, a2, by omega, a5⟩
      match k, hk with
      | 0, hk =>
        have g : ¬ w_t_kd T n q = 44 := fun g => by have := w_t_kdn (T := T) (n := n) (p := q) (by rw [g]; decide); omega
        exact stop g
      | k + 1, hk =>
        unfold w_t_ll
        by_cases g : w_t_kd T n q = 44
        · unfold w_w_cm at a2
          rw [if_pos g] at a2 ⊢
          rw [if_pos g]
          have := w_t_nx_lt (T := T) (w_t_kdn (T := T) (n := n) (p := q) (by rw [g]; decide))
          exact w_w_ll hJ h0 hX hI k (w_t_nx T n q) p0 s0 u y (th ||| b) (by omega) (by omega) a2 (hJ s u a3 hj) (w_w_4t h4 a3) a4 a5
        · have := stop g
          rw [if_neg g] at this ⊢
          rw [if_neg g]
          exact this
end WL
/-! harms and terms -/
section WH
variable {T : Nat → Int32} {n : Nat}
theorem w_w_159a {s : g_S} {q : Nat} {y : Int32} (H : w_w_U T n 0 q s) : ∃ u, g_st (f159_35 s y) (fun S => f159_4L S.2.2 S.1 S.2.1) = f159_4L u y (if w_t_kd T n q = 44 then 1 else 0) ∧ w_w_U T n 0 (w_w_cm T n q) u ∧ w_w_4 s u := by
  obtain ⟨u, r1, r2, r3, r4⟩ := w_w_139 H
  unfold f159_35
  rw [r1, w_k_bs, w_w_138 r2 r3, w_k_bs]
  unfold w_w_cm
  by_cases g : w_t_kd T n q = 44
  · rw [if_pos ((w_w_B w_sg44).2 g), if_pos g, if_pos g]
    obtain ⟨g1, g2⟩ := w_w_p1 r2 r3 w_sg44 g
    exact ⟨_, rfl, g1, w_w_4t (w_w_a4 r4) (w_w_a4 g2)⟩
  · rw [if_neg (fun h => g ((w_w_B w_sg44).1 h)), if_neg g, if_neg g]
    exact ⟨_, rfl, r2, w_w_a4 r4⟩
theorem w_x_159a {s : g_S} {e : Int32 × Nat} {y : Int32} (H : w_w_X 0 T n e s) : ∃ u z, g_st (f159_35 s y) (fun S => f159_4L S.2.2 S.1 S.2.1) = f159_4L u y z ∧ w_w_X 0 T n e u ∧ w_w_4 s u ∧ (z = 0 ∨ z = 1) := by
  obtain ⟨u, r1, r2, r3⟩ := w_x_139 H
  obtain ⟨a, h1, h2, h3⟩ := w_x_138 r2
  unfold f159_35
  rw [r1, w_k_bs, h3, w_k_bs]
  by_cases g : w_t_B T n a = 44
  · rw [if_pos g]
    have := ((w_t_B_eq (T := T) (n := n) (by decide)).1 g).1
    obtain ⟨g1, g2⟩ := w_x_p (c := 0) (k := 1) r2 ⟨a, h1, by omega⟩
    exact ⟨_, 1, rfl, g1, w_w_4t r3 g2, Or.inr rfl⟩
  · rw [if_neg g]
    exact ⟨_, 0, rfl, r2, r3, Or.inl rfl⟩
theorem w_x_159L (e : Int32 × Nat) (s : g_S) (x z : Int32) (hx : w_k_PB x) (_ : z = 0 ∨ z = 1) (H : w_w_X 0 T n e s) : w_OK (f159_4L s x z) fun w => w_k_PB w.1 ∧ w_w_4 s w.2 ∧ w_w_X 0 T n e w.2 := by
  rw [f159_4L_eq]; unfold f159_4
  rw [if_neg (show ¬ s 199 6 = 0 by rw [H.2.2.1]; exact H.2.1), if_pos (w_k_PBi hx)]
  split
  · exact ⟨_, rfl, hx, w_w_4r, H⟩
  · exact ⟨_, rfl, hx, w_w_4r, H⟩
theorem w_z_159L (s : g_S) (x : Int32) (hx : w_k_PB x) : f159_4L s x 0 = some (x, s) := by
  rw [f159_4L_eq]; unfold f159_4
  rw [if_pos rfl, if_pos (w_k_PBi hx)]; rfl
theorem w_w_160a {s : g_S} {q : Nat} {y : Int32} (H : w_w_U T n 0 q s) : ∃ u, g_st (f160_21 s y) (fun S => f160_4L S.2.2 S.1 S.2.1) = f160_4L u y (if w_t_kd T n q = 44 then 1 else 0) ∧ w_w_U T n 0 (w_w_cm T n q) u ∧ w_w_4 s u := by
  obtain ⟨u, r1, r2, r3, r4⟩ := w_w_139 H
  unfold f160_21
  rw [r1, w_k_bs, w_w_138 r2 r3, w_k_bs]
  unfold w_w_cm
  by_cases g : w_t_kd T n q = 44
  · rw [if_pos ((w_w_B w_sg44).2 g), if_pos g, if_pos g]
    obtain ⟨g1, g2⟩ := w_w_p1 r2 r3 w_sg44 g
    exact ⟨_, rfl, g1, w_w_4t (w_w_a4 r4) (w_w_a4 g2)⟩
  · rw [if_neg (fun h => g ((w_w_B w_sg44).1 h)), if_neg g, if_neg g]
    exact ⟨_, rfl, r2, w_w_a4 r4⟩
theorem w_x_160a {s : g_S} {e : Int32 × Nat} {y : Int32} (H : w_w_X 0 T n e s) : ∃ u z, g_st (f160_21 s y) (fun S => f160_4L S.2.2 S.1 S.2.1) = f160_4L u y z ∧ w_w_X 0 T n e u ∧ w_w_4 s u ∧ (z = 0 ∨ z = 1) := by
  obtain ⟨u, r1, r2, r3⟩ := w_x_139 H
  obtain ⟨a, h1, h2, h3⟩ := w_x_138 r2
  unfold f160_21
  rw [r1, w_k_bs, h3, w_k_bs]
  by_cases g : w_t_B T n a = 44
  · rw [if_pos g]
    have := ((w_t_B_eq (T := T) (n := n) (by decide)).1 g).1
    obtain ⟨g1, g2⟩ := w_x_p (c := 0) (k := 1) r2 ⟨a, h1, by omega⟩
    exact ⟨_, 1, rfl, g1, w_w_4t r3 g2, Or.inr rfl⟩
  · rw [if_neg g]
    exact ⟨_, 0, rfl, r2, r3, Or.inl rfl⟩
theorem w_x_160L (e : Int32 × Nat) (s : g_S) (x z : Int32) (hx : w_k_PB x) (_ : z = 0 ∨ z = 1) (H : w_w_X 0 T n e s) : w_OK (f160_4L s x z) fun w => w_k_PB w.1 ∧ w_w_4 s w.2 ∧ w_w_X 0 T n e w.2 := by
  rw [f160_4L_eq]; unfold f160_4
  rw [if_neg (show ¬ s 199 6 = 0 by rw [H.2.2.1]; exact H.2.1), if_pos (w_k_PBi hx)]
  split
  · exact ⟨_, rfl, hx, w_w_4r, H⟩
  · exact ⟨_, rfl, hx, w_w_4r, H⟩
theorem w_z_160L (s : g_S) (x : Int32) (hx : w_k_PB x) : f160_4L s x 0 = some (x, s) := by
  rw [f160_4L_eq]; unfold f160_4
  rw [if_pos rfl, if_pos (w_k_PBi hx)]; rfl
def w_w_hv (h x w : Int32) : Int32 := if x = 0 then (if w = 6 then 1 else if w = h then 1 else 0) else 1
theorem w_w_hvB (h x w : Int32) : w_k_PB (w_w_hv h x w) := by
  unfold w_w_hv w_k_PB
  split
  · split
    · exact Or.inr rfl
    · split
      · exact Or.inr rfl
      · exact Or.inl rfl
  · exact Or.inr rfl
theorem w_f23_eq {s : g_S} {x w : Int32} : f159_23 s x w = f159_35 s (w_w_hv (s 199 16) x w) := by
  unfold f159_23 f159_32 w_w_hv
  split
  · split
    · rfl
    · split <;> rfl
  · rfl
theorem w_w_159 {s : g_S} {p : Nat} (H : w_w_U T n 0 p s) : w_OK (f159 s) (w_k_WB (fun th x => w_k_wi (s 199 16) 0 5 → x = w_q_b (w_q_bit th (s 199 16))) T n p s (w_t_list T n (w_t_harm T n) p)) := by
  have key := w_w_ll (T := T) (n := n) (J := fun u => u 199 16 = s 199 16) (V := fun th x => w_k_wi (s 199 16) 0 5 → x = w_q_b (w_q_bit th (s 199 16))) (item := w_t_harm T n) (L := f159_4L) (fun a b hab ha => by rw [hab 199 16 (by omega)]; exact ha) w_z_159L w_x_159L
    (fun p t x th H hj hx hV => by
      have hp := w_w_Up H
      obtain ⟨a, h1, h2, h3⟩ := H.2.2.2
      obtain ⟨u, r1, r2, r3⟩ := w_e158 H.1 h2 h1 h3
      have hu := w_w_Ua H r3 r2 hp.1 hp.2
      have hf := w_t_wof_fi (T := T) (k := 4) hp.1 H.1.2.1 (by decide)
      have hgo : f159_4L t x 1 = g_st (if w_t_wof T n p 4 = -1 then ((f140 u 1 (u 199 4)).bind fun s7 => f159_23 s7 x (w_t_wof T n p 4)) else ((f147 u).bind fun s7 => f159_23 s7 x (w_t_wof T n p 4))) (fun S => f159_4L S.2.2 S.1 S.2.1) := by
        rw [f159_4L_eq]
        show g_st (f159_4 t x 1) _ = _
        unfold f159_4
        rw [if_neg (show ¬ (1 : Int32) = 0 by decide), if_pos H.2.1, r1, w_k_bd, hf]
      unfold w_t_harm
      by_cases hw : w_t_wof T n p 4 = -1
      · rw [if_pos hw]
        dsimp only
        rw [if_pos hw] at hgo
        obtain ⟨u2, b1, b2, b3, _⟩ := w_w_140 (f := 1) hu (by decide) r2
        rw [b1, w_k_bs, w_f23_eq] at hgo
        obtain ⟨u3, z, c1, c2, c3, c4⟩ := w_x_159a (y := w_w_hv (u2 199 16) x (w_t_wof T n p 4)) b2
        exact ⟨u3, _, z, hgo.trans c1, c2, w_w_4t (w_w_a4 r3) (w_w_4t b3 c3), w_w_hvB _ _ _, c4⟩
      · rw [if_neg hw]
        dsimp only
        rw [if_neg hw] at hgo
        obtain ⟨u2, b1, b2, b3⟩ := w_w_147 hu r2 (w_t_wof_w hw).1
        rw [b1, w_k_bs, w_f23_eq] at hgo
        obtain ⟨u3, c1, c2, c3⟩ := w_w_159a (y := w_w_hv (u2 199 16) x (w_t_wof T n p 4)) b2
        refine ⟨w_t_nx_lt (w_t_wof_w hw).2, u3, _, hgo.trans c1, c2, w_w_4t (w_w_a4 r3) (w_w_4t (w_w_a4 b3) c3), w_w_hvB _ _ _, ?_⟩
        intro hh
        have e16 : u2 199 16 = s 199 16 := by rw [b3 199 16 (by omega), r3 199 16 (by omega)]; exact hj
        rw [e16, hV hh, w_q_bit_or]
        obtain ⟨h, _, g1, g2⟩ := w_k_iI (a := 0) (b := 5) (by omega) hh (by omega)
        obtain ⟨w, k1, k2⟩ := w_t_fi_lt (T := T) (n := n) (p := p) (w_t_wds 4) 0 (by rw [← hf]; exact hw)
        have k1 : w < 7 := by have : 0 + (w_t_wds 4).length = 7 := rfl; omega
        rw [hf, k2, g2, w_q_bits w k1 h (by omega)]
        unfold w_w_hv
        cases w_q_bit th (nI h) with
        | true => rfl
        | false =>
          rw [if_pos (show w_q_b false = 0 from rfl), Bool.false_or]
          by_cases a1 : nI w = 6
          · rw [if_pos a1, decide_eq_true (Or.inl a1)]; rfl
          · rw [if_neg a1]
            by_cases a2 : nI w = nI h
            · rw [if_pos a2, decide_eq_true (Or.inr a2)]; rfl
            · rw [if_neg a2, decide_eq_false (fun g => g.elim a1 a2)]; rfl)
    n p p s s 0 0 (by omega) (Nat.le_refl _) H rfl w_w_4r (Or.inl rfl) (fun _ => by rw [w_q_bit0]; rfl)
  unfold f159
  exact key
theorem w_w_160 {s : g_S} {p : Nat} (H : w_w_U T n 0 p s) : w_OK (f160 s) (w_k_WB (fun th x => w_k_wi (s 199 17) 0 3 → x = w_q_b (w_q_bit th (s 199 17))) T n p s (w_t_list T n (w_t_term T n) p)) := by
  have key := w_w_ll (T := T) (n := n) (J := fun u => u 199 17 = s 199 17) (V := fun th x => w_k_wi (s 199 17) 0 3 → x = w_q_b (w_q_bit th (s 199 17))) (item := w_t_term T n) (L := f160_4L) (fun a b hab ha => by rw [hab 199 17 (by omega)]; exact ha) w_z_160L w_x_160L
    (fun p t x th H hj hx hV => by
      have hp := w_w_Up H
      obtain ⟨⟨v, u⟩, r1, r2, r3⟩ := w_w_142 (lo := 1) (hi := 3) (by omega) (by omega) H
      have hgo : f160_4L t x 1 = g_st (f160_21 u (if v = u 199 17 then 1 else if x = 0 then 0 else 1)) (fun S => f160_4L S.2.2 S.1 S.2.1) := by
        rw [f160_4L_eq]
        show g_st (f160_4 t x 1) _ = _
        unfold f160_4 f160_18
        rw [if_neg (show ¬ (1 : Int32) = 0 by decide), if_pos H.2.1, show f142 t 1 3 = some (v, u) from r1, w_k_bd]
        split
        · rfl
        · split <;> rfl
      have hPB : w_k_PB (if v = u 199 17 then 1 else if x = 0 then 0 else 1) := by
        unfold w_k_PB
        split
        · exact Or.inr rfl
        · split
          · exact Or.inl rfl
          · exact Or.inr rfl
      unfold w_t_term
      rcases r3 with ⟨g0, g1, g2, g3⟩ | ⟨g0, g1, g2⟩ | ⟨g0, g2⟩
      · have g1' : ¬ (w_t_num T n p < 1 ∨ 3 < w_t_num T n p) := fun g => g.elim g1.1 g1.2
        rw [if_pos g0, if_neg g1']
        dsimp only
        obtain ⟨u3, c1, c2, c3⟩ := w_w_160a (y := if v = u 199 17 then 1 else if x = 0 then 0 else 1) g3
        refine ⟨w_t_nx_lt (w_t_kdn (T := T) (n := n) (p := p) (by rw [g0]; decide)), u3, _, hgo.trans c1, c2, w_w_4t r2 c3, hPB, ?_⟩
        intro hh
        have e17 : u 199 17 = s 199 17 := (r2 199 17 (by omega)).trans hj
        rw [e17, hV hh, w_q_bit_or]
        obtain ⟨h, _, a1, a2⟩ := w_k_iI (a := 0) (b := 3) (by omega) hh (by omega)
        obtain ⟨w, _, b1, b2⟩ := w_k_iI (a := 1) (b := 3) (by omega) g1 (by omega)
        have g2 : v = w_t_num T n p := g2
        rw [g2, b2, a2, w_q_terms w (by omega) h (by omega)]
        by_cases e : nI w = nI h
        · rw [if_pos e, decide_eq_true e, Bool.or_true]; rfl
        · rw [if_neg e, decide_eq_false e, Bool.or_false]
          cases w_q_bit th (nI h) <;> rfl
      · have g1' : w_t_num T n p < 1 ∨ 3 < w_t_num T n p := by
          apply Classical.byContradiction
          intro g
          exact g1 ⟨fun a => g (Or.inl a), fun a => g (Or.inr a)⟩
        rw [if_pos g0, if_pos g1']
        dsimp only
        obtain ⟨u3, z, c1, c2, c3, c4⟩ := w_x_160a (y := if v = u 199 17 then 1 else if x = 0 then 0 else 1) g2
        exact ⟨u3, _, z, hgo.trans c1, c2, w_w_4t r2 c3, hPB, c4⟩
      · rw [if_neg g0]
        dsimp only
        obtain ⟨u3, z, c1, c2, c3, c4⟩ := w_x_160a (y := if v = u 199 17 then 1 else if x = 0 then 0 else 1) g2
        exact ⟨u3, _, z, hgo.trans c1, c2, w_w_4t r2 c3, hPB, c4⟩)
    n p p s s 0 0 (by omega) (Nat.le_refl _) H rfl w_w_4r (Or.inl rfl) (fun _ => by rw [w_q_bit0]; rfl)
  unfold f160
  exact key
end WH
