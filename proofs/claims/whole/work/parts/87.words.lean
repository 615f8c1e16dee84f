/-! the class's words in the same form -/
section WP
variable {T : Nat → Int32} {n : Nat}
def w_t_wd (str : List Nat) (a b : Nat) : List Nat := (List.range (b - a)).map fun i => str.getD (a + i) 0 - 96
def w_t_fr (same : Nat → Nat → Bool) : List (Nat × Nat) → Nat → Int32
  | [], _ => -1
  | ab :: r, i => if same ab.1 ab.2 = true then nI i else w_t_fr same r (i + 1)
def w_t_rg : Nat → List (Nat × Nat)
  | 0 => [(0, 4), (5, 9), (10, 14), (15, 20), (21, 27), (28, 32), (33, 36)]
  | 1 => [(0, 5)]
  | 2 => [(0, 5), (6, 10)]
  | 3 => [(0, 7), (8, 14), (15, 19), (20, 24), (25, 30)]
  | 4 => [(0, 4), (5, 9), (10, 14), (15, 19), (20, 26), (27, 33), (34, 37)]
  | 5 => [(0, 2)]
  | 6 => [(0, 2)]
  | 7 => [(0, 3)]
  | 8 => [(0, 3)]
  | 9 => [(0, 5), (6, 10)]
  | 10 => [(0, 5), (6, 11), (12, 15), (16, 20), (21, 27), (28, 32), (33, 38), (39, 43)]
  | _ => []
theorem w_t_wl_rg (same : Nat → Nat → Bool) : ∀ k, k < 11 → w_t_wl (m_text.getD k []) same 60 0 0 0 = w_t_fr same (w_t_rg k) 0
  | 0, _ => rfl
  | 1, _ => rfl
  | 2, _ => rfl
  | 3, _ => rfl
  | 4, _ => rfl
  | 5, _ => rfl
  | 6, _ => rfl
  | 7, _ => rfl
  | 8, _ => rfl
  | 9, _ => rfl
  | 10, _ => rfl
theorem w_t_wds_rg : ∀ k, k < 11 → w_t_wds k = (w_t_rg k).map fun ab => w_t_wd (m_text.getD k []) ab.1 ab.2 := by decide
theorem w_t_rg_ok : ∀ k, k < 11 → ∀ ab ∈ w_t_rg k, ab.1 < ab.2 ∧ ∀ i, i < ab.2 - ab.1 → 97 ≤ (m_text.getD k []).getD (ab.1 + i) 0 := by decide
theorem w_t_fr_fi {p : Nat} {same : Nat → Nat → Bool} {w : Nat → Nat → List Nat} : ∀ (L : List (Nat × Nat)) (i : Nat), (∀ ab ∈ L, same ab.1 ab.2 = w_t_isw T n p (w ab.1 ab.2)) → w_t_fr same L i = w_t_fi T n p (L.map fun ab => w ab.1 ab.2) i
  | [], _, _ => rfl
  | ab :: r, i, h => by
    have ih := w_t_fr_fi r (i + 1) (fun x hx => h x (by simp [hx]))
    unfold w_t_fr
    rw [List.map_cons]
    unfold w_t_fi
    rw [h ab (by simp), ih]
theorem w_t_fi_no {p : Nat} : ∀ (L : List (List Nat)) (i : Nat), (∀ ws ∈ L, w_t_isw T n p ws = false) → w_t_fi T n p L i = -1
  | [], _, _ => rfl
  | ws :: r, i, h => by
    unfold w_t_fi
    rw [h ws (by simp), if_neg (by decide)]
    exact w_t_fi_no r (i + 1) (fun x hx => h x (by simp [hx]))
theorem w_t_same_is {p : Nat} (hp : p ≤ n) (hB : ∀ j, j < n → w_k_wi (T j) 0 255) (hk : w_t_kd T n p = 256) {str : List Nat} {a b : Nat} (h : ∀ i, i < b - a → 97 ≤ str.getD (a + i) 0) : w_t_same T n p str a b = w_t_isw T n p (w_t_wd str a b) := by
  have h1 := w_t_r_te hk hB
  have h2 := (w_t_run_le (T := T) (n := n) (f := w_t_let) n p hp).1
  unfold w_t_same w_t_isw
  rw [h1.1]
  have hl : (w_t_wd str a b).length = b - a := by unfold w_t_wd; simp
  rw [hl]
  have w_e1 : decide (b - a = w_t_run w_t_let T n n p - p) = decide (w_t_r T n p = b - a) := by
    unfold w_t_r
    by_cases g : b - a = w_t_run w_t_let T n n p - p
    · rw [decide_eq_true g, decide_eq_true g.symm]
    · rw [decide_eq_false g, decide_eq_false (fun e => g e.symm)]
  rw [w_e1]
  congr 1
  rw [Bool.eq_iff_iff, List.all_eq_true, List.all_eq_true]
  refine forall_congr' fun i => ?_
  refine forall_congr' fun hi => ?_
  have hi := List.mem_range.1 hi
  have w_e2 : (w_t_wd str a b).getD i 0 + 96 = str.getD (a + i) 0 := by
    unfold w_t_wd
    rw [List.getD_eq_getElem?_getD, List.getElem?_map, List.getElem?_range hi]
    show str.getD (a + i) 0 - 96 + 96 = _
    have := h i hi
    omega
  rw [w_e2, decide_eq_true_eq, decide_eq_true_eq]
  exact ⟨fun e => e.symm, fun e => e.symm⟩
theorem w_t_wds_ne : ∀ k, k < 11 → ∀ ws ∈ w_t_wds k, ws.length ≠ 0 := by decide
theorem w_t_wof_fi {p k : Nat} (hp : p ≤ n) (hB : ∀ j, j < n → w_k_wi (T j) 0 255) (hk : k < 11) : w_t_wof T n p k = w_t_fi T n p (w_t_wds k) 0 := by
  unfold w_t_wof
  by_cases h : w_t_kd T n p = 256
  · rw [if_pos h, w_t_wl_rg _ k hk, w_t_wds_rg k hk]
    exact w_t_fr_fi _ _ fun ab hab => w_t_same_is hp hB h (w_t_rg_ok k hk ab hab).2
  · rw [if_neg h]
    refine (w_t_fi_no _ _ fun ws hws => ?_).symm
    rw [Bool.eq_false_iff]
    intro e
    have := (w_t_isw_iff.1 e).1
    rw [w_t_r0 hp h] at this
    exact w_t_wds_ne k hk ws hws this.symm
theorem w_t_wof1 {p k : Nat} {ws : List Nat} (hp : p ≤ n) (hB : ∀ j, j < n → w_k_wi (T j) 0 255) (hk : k < 11) (h : w_t_wds k = [ws]) : (w_t_wof T n p k = 0 ↔ w_t_isw T n p ws = true) ∧ (w_t_wof T n p k = -1 ↔ w_t_isw T n p ws = false) := by
  rw [w_t_wof_fi hp hB hk, h]
  unfold w_t_fi w_t_fi
  cases w_t_isw T n p ws with
  | true => rw [if_pos rfl]; exact ⟨⟨fun _ => rfl, fun _ => rfl⟩, ⟨fun e => absurd e (by decide), fun e => by cases e⟩⟩
  | false => rw [if_neg (by decide)]; exact ⟨⟨fun e => absurd e (by decide), fun e => by cases e⟩, ⟨fun _ => rfl, fun _ => rfl⟩⟩
theorem w_t_wof2 {p k : Nat} {ws vs : List Nat} (hp : p ≤ n) (hB : ∀ j, j < n → w_k_wi (T j) 0 255) (hk : k < 11) (h : w_t_wds k = [ws, vs]) (hne : ws ≠ vs) (hw : ∀ x ∈ ws, x ≤ 26) (hv : ∀ x ∈ vs, x ≤ 26) :
    (w_t_wof T n p k = 0 ∧ w_t_isw T n p ws = true ∧ w_t_isw T n p vs = false) ∨ (w_t_wof T n p k = 1 ∧ w_t_isw T n p ws = false ∧ w_t_isw T n p vs = true) ∨ (w_t_wof T n p k = -1 ∧ w_t_isw T n p ws = false ∧ w_t_isw T n p vs = false) := by
  have hx : w_t_isw T n p ws = true → w_t_isw T n p vs = false := by
    intro e
    rw [Bool.eq_false_iff]
    intro g
    have e := w_t_isw_iff.1 e
    have g := w_t_isw_iff.1 g
    apply hne
    have hl : ws.length = vs.length := by omega
    apply List.ext_getElem hl
    intro i h1 h2
    have a1 := e.2 i h1
    rw [g.2 i h2] at a1
    rw [List.getD_eq_getElem?_getD, List.getD_eq_getElem?_getD, List.getElem?_eq_getElem h1, List.getElem?_eq_getElem h2] at a1
    have b1 := hw _ (List.getElem_mem h1)
    have b2 := hv _ (List.getElem_mem h2)
    have a1 := (w_k_eq (show vs[i] + 96 < 2147483648 by omega) (show ws[i] + 96 < 2147483648 by omega)).1 a1
    omega
  rw [w_t_wof_fi hp hB hk, h]
  unfold w_t_fi w_t_fi w_t_fi
  cases e : w_t_isw T n p ws with
  | true => rw [if_pos rfl]; exact Or.inl ⟨rfl, rfl, hx e⟩
  | false =>
    rw [if_neg (by decide)]
    cases w_t_isw T n p vs with
    | true => rw [if_pos rfl]; exact Or.inr (Or.inl ⟨rfl, rfl, rfl⟩)
    | false => rw [if_neg (by decide)]; exact Or.inr (Or.inr ⟨rfl, rfl, rfl⟩)
end WP
/-! the walk's states: unfaulted at a token, faulted -/
def w_w_U (T : Nat → Int32) (n o p : Nat) (s : g_S) : Prop := w_w_W s T n ∧ s 199 6 = 0 ∧ (s 199 5 = nI o ∧ s 199 7 = -1) ∧ ∃ a, s 199 4 = nI a ∧ a ≤ n ∧ w_t_sk T n a = p
def w_w_X (d : Nat) (T : Nat → Int32) (n : Nat) (e : Int32 × Nat) (s : g_S) : Prop := w_w_W s T n ∧ e.1 ≠ 0 ∧ s 199 6 = e.1 ∧ s 199 7 = nI e.2 ∧ ∃ a, s 199 4 = nI a ∧ a ≤ n + d ∧ d ≤ 9
section WS
variable {s : g_S} {T : Nat → Int32} {n o p d : Nat} {e : Int32 × Nat}
theorem w_w_Up (H : w_w_U T n o p s) : p ≤ n ∧ w_t_sk T n p = p := by
  obtain ⟨_, _, _, a, _, h2, h3⟩ := H
  subst h3
  exact ⟨(w_t_sk_le h2).2, w_t_sk_id h2⟩
theorem w_w_Xa {u : g_S} {a : Nat} (H : w_w_X d T n e s) (h : w_w_a s u) (h4 : u 199 4 = nI a) (ha : a ≤ n + d ∧ d ≤ 9) : w_w_X d T n e u :=
  ⟨w_w_Wa H.1 (w_w_a4 h), H.2.1, by rw [h 199 6 (by omega)]; exact H.2.2.1, by rw [h 199 7 (by omega)]; exact H.2.2.2.1, a, h4, ha⟩
theorem w_w_Ua {u : g_S} {a q : Nat} (H : w_w_U T n o p s) (h : w_w_a s u) (h4 : u 199 4 = nI a) (ha : a ≤ n) (hq : w_t_sk T n a = q) : w_w_U T n o q u :=
  ⟨w_w_Wa H.1 (w_w_a4 h), by rw [h 199 6 (by omega)]; exact H.2.1, ⟨by rw [h 199 5 (by omega)]; exact H.2.2.1.1, by rw [h 199 7 (by omega)]; exact H.2.2.1.2⟩, a, h4, ha, hq⟩
theorem w_t_run_ge {f : Int32 → Bool} : ∀ k a, n ≤ a → w_t_run f T n k a = a
  | 0, _, _ => rfl
  | k + 1, a, h => by unfold w_t_run; rw [if_neg (by omega)]
theorem w_t_run_n1 {f : Int32 → Bool} {a : Nat} (h : a ≤ n + d ∧ d ≤ 9) : w_t_run f T n n a ≤ n + d ∧ d ≤ 9 := by
  by_cases g : a ≤ n
  · have := (w_t_run_le (f := f) (T := T) (n := n) n a g).2; omega
  · rw [w_t_run_ge n a (by omega)]; exact h
theorem w_w_139 (H : w_w_U T n o p s) : ∃ u, f139 s = some u ∧ w_w_U T n o p u ∧ u 199 4 = nI p ∧ w_w_a s u := by
  have hp := w_w_Up H
  have hn := H.1.1
  obtain ⟨a, h1, h2, h3⟩ := H.2.2.2
  obtain ⟨u, q1, q2, q3⟩ := w_e139 H.1 (by omega) h1
  rw [h3] at q2
  exact ⟨u, q1, w_w_Ua H q3 q2 hp.1 hp.2, q2, q3⟩
theorem w_x_139 (H : w_w_X d T n e s) : ∃ u, f139 s = some u ∧ w_w_X d T n e u ∧ w_w_4 s u := by
  have hn := H.1.1
  obtain ⟨a, h1, h2⟩ := H.2.2.2.2
  obtain ⟨u, q1, q2, q3⟩ := w_e139 H.1 (by omega) h1
  exact ⟨u, q1, w_w_Xa H q3 q2 (w_t_run_n1 h2), w_w_a4 q3⟩
theorem w_x_147 (H : w_w_X d T n e s) : ∃ u, f147 s = some u ∧ w_w_X d T n e u ∧ w_w_4 s u := by
  have hn := H.1.1
  obtain ⟨a, h1, h2⟩ := H.2.2.2.2
  obtain ⟨u, q1, q2, q3⟩ := w_e147 H.1 (by omega) h1
  exact ⟨u, q1, w_w_Xa H q3 q2 (w_t_run_n1 h2), w_w_a4 q3⟩
theorem w_w_147 (H : w_w_U T n o p s) (h4 : s 199 4 = nI p) (hk : w_t_kd T n p = 256) : ∃ u, f147 s = some u ∧ w_w_U T n o (w_t_nx T n p) u ∧ w_w_a s u := by
  have hp := w_w_Up H
  have hn := H.1.1
  obtain ⟨u, q1, q2, q3⟩ := w_e147 H.1 (by omega) h4
  rw [← (w_t_r_te hk H.1.2.1).1] at q2
  have := w_t_te_le (T := T) hp.1
  exact ⟨u, q1, w_w_Ua H q3 q2 this.2 rfl, q3⟩
theorem w_e140 (s : g_S) {f x : Int32} (h : s 199 6 = 0) : f140 s f x = some (g_w (g_w s 199 6 f) 199 7 x) := by
  unfold f140; rw [if_pos h]; rfl
theorem w_e140x (s : g_S) {f x : Int32} (h : s 199 6 ≠ 0) : f140 s f x = some s := by
  unfold f140; rw [if_neg h]
theorem w_w_140 {f x : Int32} {q : Nat} (H : w_w_U T n o p s) (hf : f ≠ 0) (hx : x = nI q) : ∃ u, f140 s f x = some u ∧ w_w_X 0 T n (f, q) u ∧ w_w_4 s u ∧ u 199 4 = s 199 4 ∧ u 199 5 = s 199 5 := by
  obtain ⟨a, h1, h2, h3⟩ := H.2.2.2
  refine ⟨_, w_e140 s H.2.1, ?_, ?_, by rw [w_k_wq (by omega), w_k_wq (by omega)], by rw [w_k_wq (by omega), w_k_wq (by omega)]⟩
  · have h4 : w_w_4 s (g_w (g_w s 199 6 f) 199 7 x) := fun y b hy => by rw [w_k_wq (by omega), w_k_wq (by omega)]
    exact ⟨w_w_Wa H.1 h4, hf, by rw [w_k_wq (by omega), w_k_wv], by rw [w_k_wv, hx], a, by rw [w_k_wq (by omega), w_k_wq (by omega)]; exact h1, by omega⟩
  · exact fun y b hy => by rw [w_k_wq (by omega), w_k_wq (by omega)]
theorem w_x_140 {f x : Int32} (H : w_w_X d T n e s) : f140 s f x = some s := w_e140x s (by rw [H.2.2.1]; exact H.2.1)
theorem w_t_kd_B {c : Int32} (h1 : w_t_let c = false) (h2 : w_t_dig c = false) (h3 : c ≠ 256) (h4 : c ≠ 257) (h5 : c ≠ 258) (h6 : c ≠ -1) : w_t_B T n p = c ↔ w_t_kd T n p = c := by
  unfold w_t_B w_t_kd
  by_cases h : p < n
  · rw [if_pos h, if_pos h]
    constructor
    · intro e; rw [e, h1, h2]; rfl
    · intro e
      split at e
      · exact absurd e.symm h3
      · split at e
        · exact absurd e.symm h4
        · exact e
  · rw [if_neg h, if_neg h]; exact ⟨fun e => absurd e.symm h6, fun e => absurd e.symm h5⟩
theorem w_t_te_B {c : Int32} (h1 : w_t_let c = false) (h2 : w_t_dig c = false) (h5 : c ≠ 258) (h3 : c ≠ 256) (h4 : c ≠ 257) (h : w_t_kd T n p = c) : w_t_te T n p = p + 1 ∧ p < n := by
  unfold w_t_kd at h
  unfold w_t_te
  by_cases g : p < n
  · rw [if_pos g] at h ⊢
    split at h
    · exact absurd h.symm h3
    · rename_i g1
      split at h
      · exact absurd h.symm h4
      · rename_i g2
        rw [if_neg g1, if_neg g2]; exact ⟨rfl, g⟩
  · rw [if_neg g] at h; exact absurd h.symm h5
def w_w_sg (c : Int32) : Prop := w_t_let c = false ∧ w_t_dig c = false ∧ c ≠ 256 ∧ c ≠ 257 ∧ c ≠ 258 ∧ c ≠ -1
theorem w_w_138 (H : w_w_U T n o p s) (h4 : s 199 4 = nI p) : f138 s (s 199 4) = some (w_t_B T n p) := by
  have hp := w_w_Up H
  have hn := H.1.1
  rw [h4]; exact w_e138 H.1 (by omega)
theorem w_w_B {c : Int32} (hc : w_w_sg c) : w_t_B T n p = c ↔ w_t_kd T n p = c := w_t_kd_B hc.1 hc.2.1 hc.2.2.1 hc.2.2.2.1 hc.2.2.2.2.1 hc.2.2.2.2.2
theorem w_w_p1 {c : Int32} (H : w_w_U T n o p s) (h4 : s 199 4 = nI p) (hc : w_w_sg c) (hk : w_t_kd T n p = c) : w_w_U T n o (w_t_nx T n p) (g_w s 199 4 (s 199 4 + 1)) ∧ w_w_a s (g_w s 199 4 (s 199 4 + 1)) := by
  have h := w_t_te_B hc.1 hc.2.1 hc.2.2.2.2.1 hc.2.2.1 hc.2.2.2.1 hk
  have ha : w_w_a s (g_w s 199 4 (s 199 4 + 1)) := fun y b hy => by rw [w_k_wq (by omega)]
  refine ⟨w_w_Ua H ha (a := p + 1) (by rw [w_k_wv, h4, w_k_s1]) (by omega) ?_, ha⟩
  unfold w_t_nx; rw [h.1]
theorem w_w_148 {c : Int32} (H : w_w_U T n o p s) (hc : w_w_sg c) : ∃ u, f148 s c = some u ∧ w_w_4 s u ∧ ((w_t_kd T n p = c ∧ w_w_U T n o (w_t_nx T n p) u) ∨ (¬ w_t_kd T n p = c ∧ w_w_X 0 T n (1, p) u)) := by
  obtain ⟨t, q1, q2, q3, q4⟩ := w_w_139 H
  unfold f148
  rw [q1, w_k_bs, w_w_138 q2 q3, w_k_bs]
  by_cases h : w_t_kd T n p = c
  · rw [if_pos ((w_w_B hc).2 h), w_k_let]
    have := w_w_p1 q2 q3 hc h
    exact ⟨_, rfl, w_w_4t (w_w_a4 q4) (w_w_a4 this.2), Or.inl ⟨h, this.1⟩⟩
  · rw [if_neg (fun g => h ((w_w_B hc).1 g))]
    obtain ⟨u, r1, r2, r3, _⟩ := w_w_140 (f := 1) q2 (by decide) q3
    exact ⟨u, by rw [r1]; rfl, w_w_4t (w_w_a4 q4) r3, Or.inr ⟨h, r2⟩⟩
theorem w_x_p {c : Int32} {k : Nat} (H : w_w_X d T n e s) (hk : ∃ a, s 199 4 = nI a ∧ a + k ≤ n + d ∧ d ≤ 9) : w_w_X d T n e (g_w s 199 4 (s 199 4 + nI k)) ∧ w_w_4 s (g_w s 199 4 (s 199 4 + nI k)) := by
  obtain ⟨a, h1, h2⟩ := hk
  have ha : w_w_a s (g_w s 199 4 (s 199 4 + nI k)) := fun y b hy => by rw [w_k_wq (by omega)]
  exact ⟨w_w_Xa H ha (a := a + k) (by rw [w_k_wv, h1, w_k_add]) h2, w_w_a4 ha⟩
theorem w_x_138 (H : w_w_X d T n e s) : ∃ a, s 199 4 = nI a ∧ (a ≤ n + d ∧ d ≤ 9) ∧ f138 s (s 199 4) = some (w_t_B T n a) := by
  have hn := H.1.1
  obtain ⟨a, h1, h2⟩ := H.2.2.2.2
  exact ⟨a, h1, h2, by rw [h1]; exact w_e138 H.1 (by omega)⟩
theorem w_x_148 {c : Int32} (H : w_w_X d T n e s) (hc : c ≠ -1) : ∃ u, f148 s c = some u ∧ w_w_4 s u ∧ w_w_X d T n e u := by
  obtain ⟨t, q1, q2, q3⟩ := w_x_139 H
  obtain ⟨a, h1, h2, h3⟩ := w_x_138 q2
  unfold f148
  rw [q1, w_k_bs, h3, w_k_bs]
  by_cases h : w_t_B T n a = c
  · rw [if_pos h, w_k_let]
    have := ((w_t_B_eq (T := T) (n := n) hc).1 h).1
    have := w_x_p (c := c) (k := 1) q2 ⟨a, h1, by omega⟩
    exact ⟨_, rfl, w_w_4t q3 this.2, this.1⟩
  · rw [if_neg h, w_x_140 q2]
    exact ⟨t, rfl, q3, q2⟩
theorem w_w_n5 {o' : Nat} {v : Int32} (H : w_w_U T n o p s) (hv : v = nI o') : w_w_U T n o' p (g_w s 199 5 v) ∧ w_w_4 s (g_w s 199 5 v) := by
  have h : w_w_4 s (g_w s 199 5 v) := fun y b hy => by rw [w_k_wq (by omega)]
  obtain ⟨a, h1, h2, h3⟩ := H.2.2.2
  exact ⟨⟨w_w_Wa H.1 h, by rw [w_k_wq (by omega)]; exact H.2.1, ⟨by rw [w_k_wv, hv], by rw [w_k_wq (by omega)]; exact H.2.2.1.2⟩, a, by rw [w_k_wq (by omega)]; exact h1, h2, h3⟩, h⟩
theorem w_x_n5 {v : Int32} (H : w_w_X d T n e s) : w_w_X d T n e (g_w s 199 5 v) ∧ w_w_4 s (g_w s 199 5 v) := by
  have h : w_w_4 s (g_w s 199 5 v) := fun y b hy => by rw [w_k_wq (by omega)]
  obtain ⟨a, h1, h2⟩ := H.2.2.2.2
  exact ⟨⟨w_w_Wa H.1 h, H.2.1, by rw [w_k_wq (by omega)]; exact H.2.2.1, by rw [w_k_wq (by omega)]; exact H.2.2.2.1, a, by rw [w_k_wq (by omega)]; exact h1, h2⟩, h⟩
theorem w_w_149 {k : Nat} (H : w_w_U T n o p s) (h4 : s 199 4 = nI p) (hk : w_t_te T n p = p + k) (ho : o ≤ 6) : ∃ u, f149 s (nI k) = some u ∧ w_w_4 s u ∧ ((o < 6 ∧ w_w_U T n (o + 1) (w_t_nx T n p) u) ∨ (¬ o < 6 ∧ w_w_X 0 T n (3, p) u)) := by
  have hp := w_w_Up H
  have hte := w_t_te_le (T := T) hp.1
  unfold f149
  by_cases h : o < 6
  · rw [if_neg (show ¬ s 199 5 = 6 from fun g => by rw [H.2.2.1.1] at g; have := (w_k_eq (b := 6) (by omega) (by omega)).1 g; omega)]
    unfold f149_9
    rw [w_k_let, w_k_let]
    obtain ⟨g1, g2⟩ := w_w_n5 (o' := o + 1) (v := s 199 5 + 1) H (by rw [H.2.2.1.1, w_k_s1])
    have ha : w_w_a (g_w s 199 5 (s 199 5 + 1)) (g_w (g_w s 199 5 (s 199 5 + 1)) 199 4 (g_w s 199 5 (s 199 5 + 1) 199 4 + nI k)) := fun y b hy => by rw [w_k_wq (by omega)]
    refine ⟨_, rfl, w_w_4t g2 (w_w_a4 ha), Or.inl ⟨h, w_w_Ua g1 ha (a := p + k) ?_ (by omega) ?_⟩⟩
    · rw [w_k_wv, w_k_wq (by omega), h4, w_k_add]
    · unfold w_t_nx; rw [hk]
  · have e6 : o = 6 := by omega
    rw [if_pos (show s 199 5 = 6 by rw [H.2.2.1.1, e6]; rfl)]
    obtain ⟨u, r1, r2, r3, r4, r5⟩ := w_w_140 (f := 3) H (by decide) h4
    rw [r1, w_k_bs]
    unfold f149_9
    rw [w_k_let, w_k_let]
    obtain ⟨g1, g2⟩ := w_x_n5 (v := u 199 5 + 1) r2
    obtain ⟨g3, g4⟩ := w_x_p (c := 0) (k := k) g1 ⟨p, by rw [w_k_wq (by omega), r4, h4], by omega⟩
    exact ⟨_, rfl, w_w_4t r3 (w_w_4t g2 g4), Or.inr ⟨h, g3⟩⟩
end WS
