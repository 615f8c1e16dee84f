/-! Calls that tell one thing of the chain. -/
theorem w_k_sum_cg {V W : w_k_V} : ∀ p, (∀ q, q < p → W (201 + 2 * q) = V (201 + 2 * q)) → w_k_sum W p = w_k_sum V p
  | 0, _ => rfl
  | p + 1, h => by
    show w_k_sum W p + W (201 + 2 * p) = w_k_sum V p + V (201 + 2 * p)
    rw [w_k_sum_cg p (fun q hq => h q (by omega)), h p (by omega)]
theorem w_k_Vok_f {n : Nat} {V W : w_k_V} (H : w_k_Vok n V) (hV : ∀ j, j = 0 ∨ 5 ≤ j → W j = V j) (c1 : w_k_wi (W 1) 0 9999) (c2 : w_k_wi (W 2) (-1) 5) (c3 : w_k_wi (W 3) 0 999) (c4 : W 4 = -1 ∨ ∃ l, l < n ∧ W 4 = nI l) : w_k_Vok n W := by
  obtain ⟨a1, a2, a3, a4, a5, a6, a7, a8, a9, b1, b2, b3, b4⟩ := H
  have e0 : w_k_hc W = w_k_hc V := congrArg Int32.toNatClampNeg (hV 0 (by omega))
  have w_e5 : w_k_qc W = w_k_qc V := congrArg Int32.toNatClampNeg (hV 5 (by omega))
  have e6 : w_k_pc W = w_k_pc V := congrArg Int32.toNatClampNeg (hV 6 (by omega))
  unfold w_k_Vok
  rw [e0, w_e5, e6, hV 0 (by omega), hV 5 (by omega), hV 6 (by omega), hV 7 (by omega), w_k_sum_cg (V := V) (W := W) _ (fun q _ => hV _ (by omega))]
  refine ⟨a1, a2, a3, c2, c3, c4, a7, fun h h1 h2 => ?_, fun h f h1 h2 => ?_, fun q hq => ?_, fun p hp => ?_, c1, fun h hh => ?_⟩
  · rw [hV _ (by omega), hV _ (by omega), hV _ (by omega)]; exact a8 h h1 h2
  · rw [hV _ (by omega)]; exact a9 h f h1 h2
  · rw [hV _ (by omega), hV _ (by omega), hV _ (by omega)]; exact b1 q hq
  · rw [hV _ (by omega)]; exact b2 p hp
  · rw [hV _ (by omega)]; exact b4 h hh
theorem w_k_Vok_h {n k : Nat} {V W : w_k_V} (H : w_k_Vok n V) (hk : k < 13) (hV : ∀ j, j < 10 + 12 * k ∨ 21 + 12 * k ≤ j → W j = V j)
    (c1 : 1 ≤ k → k < w_k_hc V → w_k_wi (W (10 + 12 * k)) 0 5 ∧ w_k_wi (W (11 + 12 * k)) 0 999 ∧ w_k_wi (W (13 + 12 * k)) 0 3)
    (c2 : ∀ f, f < 4 → m_isb (W (17 + 12 * k + f)) = true) (c3 : k < w_k_hc V → w_k_wi (W (15 + 12 * k)) 0 9999) : w_k_Vok n W := by
  obtain ⟨a1, a2, a3, a4, a5, a6, a7, a8, a9, b1, b2, b3, b4⟩ := H
  have e0 : w_k_hc W = w_k_hc V := congrArg Int32.toNatClampNeg (hV 0 (by omega))
  have w_e5 : w_k_qc W = w_k_qc V := congrArg Int32.toNatClampNeg (hV 5 (by omega))
  have e6 : w_k_pc W = w_k_pc V := congrArg Int32.toNatClampNeg (hV 6 (by omega))
  unfold w_k_Vok
  rw [e0, w_e5, e6, hV 0 (by omega), hV 1 (by omega), hV 2 (by omega), hV 3 (by omega), hV 4 (by omega), hV 5 (by omega), hV 6 (by omega), hV 7 (by omega), w_k_sum_cg (V := V) (W := W) _ (fun q _ => hV _ (by omega))]
  refine ⟨a1, a2, a3, a4, a5, a6, a7, fun h h1 h2 => ?_, fun h f h1 h2 => ?_, fun q hq => ?_, fun p hp => ?_, b3, fun h hh => ?_⟩
  · by_cases e : h = k
    · subst e; exact c1 h1 h2
    · rw [hV _ (by omega), hV _ (by omega), hV _ (by omega)]; exact a8 h h1 h2
  · by_cases e : h = k
    · subst e; exact c2 f h2
    · rw [hV _ (by omega)]; exact a9 h f h1 h2
  · rw [hV _ (by omega), hV _ (by omega), hV _ (by omega)]; exact b1 q hq
  · rw [hV _ (by omega)]; exact b2 p hp
  · by_cases e : h = k
    · subst e; exact c3 hh
    · rw [hV _ (by omega)]; exact b4 h hh
theorem w_k_wq {s : g_S} {x b y c : Nat} {v : Int32} (h : ¬ (y = x ∧ c = b)) : g_w s x b v y c = s y c := by
  by_cases e : y = x
  · subst e
    rw [w_k_we, w_k_un (fun e => h ⟨rfl, e⟩)]
  · rw [w_k_wn e]
theorem w_k_wv {s : g_S} {x b : Nat} {v : Int32} : g_w s x b v x b = v := by rw [w_k_we, w_k_ue]
/-! value -/
def w_a_val (V : w_k_V) (v : Int32) : (Int32 ⊕ Nat) × w_k_V := if w_k_wi v 0 9999 then (.inl (V 1), upd V 1 v) else (.inr 0, V)
theorem w_v_val {n : Nat} {V : w_k_V} {v : Int32} (h : w_k_Vok n V) : w_k_Vok n (w_a_val V v).2 := by
  unfold w_a_val; split
  · rename_i hv
    refine w_k_Vok_f h (fun j hj => w_k_un (by omega)) hv h.2.2.2.1 h.2.2.2.2.1 h.2.2.2.2.2.1
  · exact h
theorem w_c_val {s : g_S} {A : w_k_A} {v : Int32} (hA : w_k_Aok A) (H : w_k_CI s A) : w_k_cop s (f86 s v) (w_a_val A.2.2.2.1 v).1 (w_k_sV A (w_a_val A.2.2.2.1 v).2) := by
  rw [w_e86]
  unfold w_a_val; split
  · have hv := H.2.2.2.2.1
    refine w_ok_some ⟨congrArg Sum.inl hv.1.2.1, w_k_CI_V hA (fun x h1 _ h2 => w_k_wn (by omega)) H (w_k_CV_mk hv (w_k_Vb hA.2.2.2.1).1 (w_k_Vb hA.2.2.2.1).2.1 rfl rfl rfl (fun j hj => w_k_un (by omega)) (fun x h1 h2 => w_k_wn (by omega)) ?_), fun y hy => w_k_wn (by omega)⟩
    exact ⟨hv.1.1, rfl, hv.1.2.2.1, hv.1.2.2.2.1, hv.1.2.2.2.2.1, hv.1.2.2.2.2.2.1⟩
  · exact w_ok_some ⟨rfl, H, fun _ _ => rfl⟩
theorem w_m_ref {TR : w_k_TR} {cd : Nat → Int32} {s : g_S} {A : w_k_A} {v w : Int32} {e : Nat} (hA : w_k_Aok A) (H : w_k_MI TR s A) (hw : w = cd e) : w_k_mop TR cd s (some (v, g_w (g_w s 199 0 0) 199 0 w)) (.inr e) (w_k_sV A A.2.2.2.1) := by
  refine w_ok_some ⟨w_k_MI_cg hA (fun x b h1 h2 h3 => ?_) H, fun y hy => ?_, fun w hw => (by cases hw), fun e he => (by cases he; exact hw)⟩
  · unfold w_k_sM at h3; dsimp only; simp (disch := omega) only [w_k_wq]
  · dsimp only; simp (disch := omega) only [w_k_wn]
theorem w_m_ans {TR : w_k_TR} {cd : Nat → Int32} {s : g_S} {A : w_k_A} {v : Int32} (hA : w_k_Aok A) (H : w_k_MI TR s A) : w_k_mop TR cd s (some (v, g_w s 199 0 0)) (.inl v) (w_k_sV A A.2.2.2.1) := by
  refine w_ok_some ⟨w_k_MI_cg hA (fun x b h1 h2 h3 => ?_) H, fun y hy => ?_, fun w hw => (by cases hw; exact ⟨rfl, rfl⟩), fun e he => (by cases he)⟩
  · unfold w_k_sM at h3; dsimp only; simp (disch := omega) only [w_k_wq]
  · dsimp only; simp (disch := omega) only [w_k_wn]
theorem w_m_val {TR : w_k_TR} {s : g_S} {A : w_k_A} {v : Int32} (hA : w_k_Aok A) (H : w_k_MI TR s A) : w_k_mop TR w_k_cI s (f175 s v) (w_a_val A.2.2.2.1 v).1 (w_k_sV A (w_a_val A.2.2.2.1 v).2) := by
  rw [w_e175]
  have hv := H.2.2.2.1
  unfold w_a_val; split
  · refine w_ok_some ⟨w_k_MI_V hA (fun x b h1 h2 h3 h4 => ?_) H (w_k_MV_mk hv (fun j hj => w_k_un (by omega)) (fun x h1 h2 => ?_) ?_), fun y hy => ?_, fun w hw => ?_, fun e he => by cases he⟩
    · unfold w_k_sM at h3; unfold w_k_ch at h4; dsimp only; simp (disch := omega) only [w_k_wq]
    · dsimp only; simp (disch := omega) only [w_k_wn]
    · exact ⟨hv.1.1, rfl, hv.1.2.2.1, hv.1.2.2.2.1, hv.1.2.2.2.2.1, hv.1.2.2.2.2.2.1, hv.1.2.2.2.2.2.2.1, hv.1.2.2.2.2.2.2.2⟩
    · dsimp only; simp (disch := omega) only [w_k_wn]
    · cases hw; exact ⟨rfl, hv.1.2.1⟩
  · exact w_m_ref hA H rfl
theorem w_glue3 {TR : w_k_TR} {s : g_S} {A B : w_k_A} {ex : Nat} {x4 : Int32} {cd : Nat → Int32} {x : Option ((Int32 ⊕ Nat) × g_S)} {M : g_S → Option (Int32 × g_S)} {r : Int32 ⊕ Nat} {W : Int32 → g_S → Option ((Int32 × Nat) × g_S)} {h : Nat → g_S → Option ((Int32 × Nat) × g_S)}
    {K : Int32 → Nat → g_S → Int32 → g_S → Int32 → Option ((Int32 × (g_S × Nat)) ⊕ (Int32 × (g_S × Nat)))}
    (hA : w_k_In TR s A) (hB : w_k_Aok B) (hc : w_k_cop s x r B) (hm : ∀ t, w_k_MI TR t A → w_k_mop TR cd t (M t) r B)
    (hr : ∀ e t, r = .inr e → h e t = some ((cd e, 1), t) ∧ cd e ≠ 0)
    (hW : ∀ v t, r = .inl v → W v t = some ((0, 0), g_w t 564 0 v))
    (hK : ∀ v t w, r = .inl v → w 564 0 = v → K 0 0 t v w 0 = some (.inl (x4 + 7, (w, ex + 0))))
    (hK2 : ∀ c u t w, c ≠ 0 → K c 1 t u w c = some (.inl (x4 + 7, (w, ex + 1)))) :
    w_OK (g_wd (g_wb x W h) fun v2 k4 s3 => g_bd (M s3) fun v5 s6 => (f133 s6).bind fun v7 => K v2 k4 s3 v5 s6 v7) (w_k_nx TR ex x4) := by
  obtain ⟨⟨w1, t⟩, rfl, h1, h2, h3⟩ := hc
  simp only at h1 h2 h3
  subst h1
  obtain ⟨hA1, hA2, hA3⟩ := hA
  cases w1 with
  | inl v =>
    show w_OK (g_wd (W v t) (fun v2 k4 s3 => g_bd (M s3) fun v5 s6 => (f133 s6).bind fun v7 => K v2 k4 s3 v5 s6 v7)) _
    rw [hW v t rfl]
    show w_OK (g_bd (M (g_w t 564 0 v)) (fun v5 s6 => (f133 s6).bind fun v7 => K 0 0 (g_w t 564 0 v) v5 s6 v7)) _
    have hM : w_k_MI TR (g_w t 564 0 v) A := w_k_MI_cg hA1 (fun y b h1 h2 _ => by rw [w_k_wn (by omega), h3 y h1]) hA3
    obtain ⟨⟨u, t2⟩, w_e2, g1, g2, g3, g4⟩ := hm _ hM
    simp only at g1 g2 g3 g4
    rw [w_e2, w_k_bd]
    obtain ⟨g5, g6⟩ := g3 v rfl
    show w_OK (K 0 0 _ u t2 (t2 199 0)) _
    rw [g5, g6, hK v _ _ rfl (by rw [g2 564 (Or.inr rfl), w_k_we, w_k_ue])]
    refine w_ok_some ⟨B, _, _, rfl, ⟨hB, w_k_CI_cg hB (fun y hy _ => ?_) h2, g1⟩, by omega⟩
    rw [g2 y (Or.inl hy), w_k_wn (by omega)]
  | inr e =>
    obtain ⟨q1, q2⟩ := hr e t rfl
    show w_OK (g_wd (h e t) _) _
    rw [q1]
    show w_OK (g_bd (M t) (fun v5 s6 => (f133 s6).bind fun v7 => K (cd e) 1 t v5 s6 v7)) _
    have hM : w_k_MI TR t A := w_k_MI_cg hA1 (fun y b h1 h2 _ => by rw [h3 y h1]) hA3
    obtain ⟨⟨u, t2⟩, w_e2, g1, g2, g3, g4⟩ := hm _ hM
    simp only at g1 g2 g3 g4
    rw [w_e2, w_k_bd]
    show w_OK (K (cd e) 1 _ u t2 (t2 199 0)) _
    rw [g4 e rfl, hK2 _ _ _ _ q2]
    refine w_ok_some ⟨B, _, _, rfl, ⟨hB, w_k_CI_cg hB (fun y hy _ => ?_) h2, g1⟩, by omega⟩
    rw [g2 y (Or.inl hy)]
theorem w_k_iI {a b : Nat} (hb : b < 2147483648) {x : Int32} (h : w_k_wi x (nI a) (nI b)) (ha : a < 2147483648) : ∃ k, a ≤ k ∧ k ≤ b ∧ x = nI k := by
  obtain ⟨h1, h2⟩ := h
  have h3 : ¬ x < 0 := by
    rw [Int32.lt_iff_toInt_lt, w_k_nI ha] at h1
    rw [Int32.lt_iff_toInt_lt]
    show ¬ x.toInt < 0
    omega
  obtain ⟨k, hk, rfl⟩ := w_k_of h3
  rw [w_k_lt hk ha] at h1
  rw [w_k_lt hb hk] at h2
  exact ⟨k, by omega, by omega, rfl⟩
theorem w_k_iL {x : Int32} (b : Nat) {y : Int32} (h : w_k_wi x 0 y) (hy : y = nI b) (hb : b < 2147483648) : ∃ k, k ≤ b ∧ x = nI k := by
  subst hy
  obtain ⟨k, _, h2, h3⟩ := w_k_iI (a := 0) hb h (by omega)
  exact ⟨k, h2, h3⟩
theorem w_k_i1 {x : Int32} {n : Nat} {y : Int32} (hy : y = nI n) (hn : n < 2147483648) (h : w_k_wi x 0 (y - 1)) : ∃ k, k < n ∧ x = nI k := by
  subst hy
  cases n with
  | zero =>
    exfalso
    obtain ⟨h1, h2⟩ := h
    rw [Int32.lt_iff_toInt_lt] at h1 h2
    have h3 : (nI 0 - 1).toInt = -1 := rfl
    have h4 : (0 : Int32).toInt = 0 := rfl
    omega
  | succ n =>
    rw [w_k_m1] at h
    obtain ⟨k, h2, h3⟩ := w_k_iL n h rfl (by omega)
    exact ⟨k, by omega, h3⟩
theorem w_k_iC {k n : Nat} (h : k ≤ n) (hn : n < 2147483648) : w_k_wi (nI k) 0 (nI n) := by
  constructor
  · show ¬ nI k < nI 0
    rw [w_k_lt (by omega) (by omega)]; omega
  · rw [w_k_lt (by omega) (by omega)]; omega
theorem w_k_hcI {n : Nat} {V : w_k_V} (h : w_k_Vok n V) : V 0 = nI (w_k_hc V) := h.1.1
theorem w_k_hin {k : Nat} (h : k < 13) : m_in (nI k) 13 = true := (w_k_inI (by omega)).2 h
theorem w_k_mA {TR : w_k_TR} {s t : g_S} {A : w_k_A} {W : w_k_V} (hA : w_k_Aok A) (H : w_k_MI TR s A) (h : ∀ x b, ¬ w_k_sM x b → ¬ w_k_ch x b → x ≠ 564 → t x b = s x b) (hW : w_k_MV t W) : w_k_MI TR t (w_k_sV A W) := w_k_MI_V hA (fun x b h1 h2 h3 h4 => h x b h3 h4 (by omega)) H hW
theorem w_k_MV_hand {s t : g_S} {k : Nat} {V W : w_k_V} (H : w_k_MV s V) (hk : k < 13) (hV : ∀ j, j < 10 + 12 * k ∨ 21 + 12 * k ≤ j → W j = V j)
    (h1 : ∀ b, 13 ≤ b → b < 51 → b ≠ 34 → b ≠ 46 → b ≠ 47 → ¬ (15 ≤ b ∧ b ≤ 25) → t 199 b = s 199 b) (h2 : ∀ x, (209 ≤ x ∧ x < 222 ∧ x ≠ 209 + k) ∨ (260 ≤ x ∧ x < 268) ∨ (540 ≤ x ∧ x < 560) ∨ (225 ≤ x ∧ x < 238 ∧ x ≠ 225 + k) → t x = s x)
    (h3 : ∀ h, h < 13 → h ≠ k → t 222 h = s 222 h ∧ t 223 h = s 223 h)
    (n1 : ∀ i, i < 5 → t (209 + k) i = W (10 + 12 * k + i)) (n2 : t 222 k = W (15 + 12 * k) ∧ t 223 k = W (16 + 12 * k)) (n3 : ∀ f, f < 4 → t (225 + k) f = W (17 + 12 * k + f)) : w_k_MV t W := by
  obtain ⟨a1, a2, a3, a4, a5, a6⟩ := H
  refine ⟨?_, fun h i hh hi => ?_, fun h hh => ?_, fun h f hh hf => ?_, fun q i hq hi => ?_, fun p hp => ?_⟩
  · rw [h1 26 (by omega) (by omega) (by omega) (by omega) (by omega) (by omega), h1 27 (by omega) (by omega) (by omega) (by omega) (by omega) (by omega), h1 28 (by omega) (by omega) (by omega) (by omega) (by omega) (by omega), h1 29 (by omega) (by omega) (by omega) (by omega) (by omega) (by omega), h1 13 (by omega) (by omega) (by omega) (by omega) (by omega) (by omega), h1 43 (by omega) (by omega) (by omega) (by omega) (by omega) (by omega), h1 49 (by omega) (by omega) (by omega) (by omega) (by omega) (by omega), h1 50 (by omega) (by omega) (by omega) (by omega) (by omega) (by omega)]
    rw [hV 0 (by omega), hV 1 (by omega), hV 2 (by omega), hV 3 (by omega), hV 4 (by omega), hV 5 (by omega), hV 6 (by omega), hV 7 (by omega)]
    exact a1
  · by_cases e : h = k
    · subst e; exact n1 i hi
    · rw [h2 _ (by omega), hV _ (by omega)]; exact a2 h i hh hi
  · by_cases e : h = k
    · subst e; exact n2
    · rw [(h3 h hh e).1, (h3 h hh e).2, hV _ (by omega), hV _ (by omega)]; exact a3 h hh
  · by_cases e : h = k
    · subst e; exact n3 f hf
    · rw [h2 _ (by omega), hV _ (by omega)]; exact a4 h f hh hf
  · rw [h2 _ (by omega), hV _ (by omega)]; exact a5 q i hq hi
  · rw [h2 _ (by omega), hV _ (by omega), hV _ (by omega)]; exact a6 p hp
/-! force -/
def w_a_force (n : Nat) (V : w_k_V) (v : Int32) : (Int32 ⊕ Nat) × w_k_V := if w_k_wi v (-1) (nI n - 1) then (.inl (V 4), upd V 4 v) else (.inr 0, V)
theorem w_k_wm {n : Nat} {v : Int32} (hn : n < 1000) : w_k_wi v (-1) (nI n - 1) ↔ v = -1 ∨ w_k_wi v 0 (nI n - 1) := by
  have h1 : (nI n - 1).toInt = (n : Int) - 1 := by
    rw [Int32.toInt_sub, w_k_nI (by omega)]
    show ((n : Int) - 1).bmod _ = _
    rw [Int.bmod_def]; omega
  have h2 : (-1 : Int32).toInt = -1 := rfl
  have h3 : (0 : Int32).toInt = 0 := rfl
  unfold w_k_wi
  rw [← Int32.toInt_inj, Int32.lt_iff_toInt_lt, Int32.lt_iff_toInt_lt, Int32.lt_iff_toInt_lt, h1, h2, h3]
  omega
theorem w_v_force {n : Nat} {V : w_k_V} {v : Int32} (hn : n < 1000) (h : w_k_Vok n V) : w_k_Vok n (w_a_force n V v).2 := by
  unfold w_a_force; split
  · rename_i hv
    refine w_k_Vok_f h (fun j hj => w_k_un (by omega)) h.2.2.2.2.2.2.2.2.2.2.2.1 h.2.2.2.1 h.2.2.2.2.1 ?_
    dsimp only; rw [w_k_ue]
    rcases (w_k_wm hn).1 hv with h1 | h1
    · exact Or.inl h1
    · obtain ⟨k, hk, h2⟩ := w_k_i1 rfl (by omega) h1
      exact Or.inr ⟨k, hk, h2⟩
  · exact h
theorem w_c_force {s : g_S} {A : w_k_A} {v : Int32} (hA : w_k_Aok A) (H : w_k_CI s A) : w_k_cop s (f81 s v) (w_a_force A.2.2.1.length A.2.2.2.1 v).1 (w_k_sV A (w_a_force A.2.2.1.length A.2.2.2.1 v).2) := by
  have e : f81 s v = if w_k_wi v (-1) (nI A.2.2.1.length - 1) then some (.inl (s 22 5), g_w s 22 5 v) else some (.inr 0, s) := by
    have hl : A.2.2.1.length < 1000 := by have := hA.2.2.1; omega
    unfold f81 f81_7 f81_10
    rw [w_e119, H.1.2.1]
    by_cases h1 : v = -1
    · rw [if_pos h1, if_pos ((w_k_wm hl).2 (Or.inl h1))]; rfl
    · by_cases h2 : w_k_wi v 0 (nI A.2.2.1.length - 1)
      · rw [if_neg h1, w_k_ift h2, if_pos ((w_k_wm hl).2 (Or.inr h2))]; rfl
      · rw [if_neg h1, w_k_iff h2, if_neg (fun h => (w_k_wm hl).1 h |>.elim h1 h2)]; rfl
  rw [e]
  unfold w_a_force; split
  · have hv := H.2.2.2.2.1
    refine w_ok_some ⟨congrArg Sum.inl hv.1.2.2.2.2.1, w_k_CI_V hA (fun x h1 _ h2 => w_k_wn (by omega)) H (w_k_CV_mk hv (w_k_Vb hA.2.2.2.1).1 (w_k_Vb hA.2.2.2.1).2.1 rfl rfl rfl (fun j hj => w_k_un (by omega)) (fun x h1 h2 => w_k_wn (by omega)) ?_), fun y hy => w_k_wn (by omega)⟩
    exact ⟨hv.1.1, hv.1.2.1, hv.1.2.2.1, hv.1.2.2.2.1, rfl, hv.1.2.2.2.2.2.1⟩
  · exact w_ok_some ⟨rfl, H, fun _ _ => rfl⟩
theorem w_m_force {TR : w_k_TR} {s : g_S} {A : w_k_A} {v : Int32} (hA : w_k_Aok A) (H : w_k_MI TR s A) : w_k_mop TR w_k_cI s (f167 s v) (w_a_force A.2.2.1.length A.2.2.2.1 v).1 (w_k_sV A (w_a_force A.2.2.1.length A.2.2.2.1 v).2) := by
  have e : f167 s v = if w_k_wi v (-1) (nI A.2.2.1.length - 1) then some (s 199 13, g_w (g_w s 199 0 0) 199 13 v) else some (0, g_w (g_w s 199 0 0) 199 0 1) := by
    unfold f167; rw [w_k_let, w_e135, w_k_0n (by omega), H.1.2.1]
    by_cases h : w_k_wi v (-1) (nI A.2.2.1.length - 1)
    · rw [w_k_ift h, if_pos h, w_k_bs, if_neg (by decide), f167_15, w_e134o w_k_00]; rfl
    · rw [w_k_iff h, if_neg h, w_k_bs, if_pos rfl, f167_15, w_e134b w_k_00 (by decide)]; rfl
  rw [e]
  have hv := H.2.2.2.1
  unfold w_a_force; split
  · refine w_ok_some ⟨w_k_MI_V hA (fun x b h1 h2 h3 h4 => ?_) H (w_k_MV_mk hv (fun j hj => w_k_un (by omega)) (fun x h1 h2 => ?_) ?_), fun y hy => ?_, fun w hw => ?_, fun e he => by cases he⟩
    · unfold w_k_sM at h3; unfold w_k_ch at h4; dsimp only; simp (disch := omega) only [w_k_wq]
    · dsimp only; simp (disch := omega) only [w_k_wn]
    · exact ⟨hv.1.1, hv.1.2.1, hv.1.2.2.1, hv.1.2.2.2.1, rfl, hv.1.2.2.2.2.2.1, hv.1.2.2.2.2.2.2.1, hv.1.2.2.2.2.2.2.2⟩
    · dsimp only; simp (disch := omega) only [w_k_wn]
    · cases hw; exact ⟨rfl, hv.1.2.2.2.2.1⟩
  · exact w_m_ref hA H rfl
/-! harm -/
def w_a_harm (V : w_k_V) (v d : Int32) : (Int32 ⊕ Nat) × w_k_V := if w_k_wi v (-1) 5 ∧ w_k_wi d 0 999 then (.inl (V 2), upd (upd V 2 v) 3 d) else (.inr 0, V)
theorem w_v_harm {n : Nat} {V : w_k_V} {v d : Int32} (h : w_k_Vok n V) : w_k_Vok n (w_a_harm V v d).2 := by
  unfold w_a_harm; split
  · rename_i hv
    exact w_k_Vok_f h (fun j hj => by simp (disch := omega) only [w_k_un]) h.2.2.2.2.2.2.2.2.2.2.2.1 hv.1 hv.2 h.2.2.2.2.2.1
  · exact h
theorem w_c_harm {s : g_S} {A : w_k_A} {v d : Int32} (hA : w_k_Aok A) (H : w_k_CI s A) : w_k_cop s (f89 s v d) (w_a_harm A.2.2.2.1 v d).1 (w_k_sV A (w_a_harm A.2.2.2.1 v d).2) := by
  have e : f89 s v d = if w_k_wi v (-1) 5 ∧ w_k_wi d 0 999 then some (.inl (s 22 3), g_w (g_w s 22 3 v) 22 4 d) else some (.inr 0, s) := by
    unfold f89 f89_7 f89_10
    have hm : w_k_wi v (-1) 5 ↔ v = -1 ∨ w_k_wi v 0 5 := w_k_wm (n := 6) (by omega)
    rw [w_e118]
    by_cases h0 : v = -1
    · rw [if_pos h0, w_e116t, w_k_tbl, w_e118]
      by_cases h2 : w_k_wi d 0 999
      · rw [w_k_ift h2, if_pos ⟨hm.2 (Or.inl h0), h2⟩]; rfl
      · rw [w_k_iff h2, if_neg (fun h => h2 h.2)]; rfl
    · rw [if_neg h0]
      by_cases h1 : w_k_wi v 0 5
      · rw [w_k_ift h1, w_k_bs, if_neg (by decide), w_e116t, w_k_tbl, w_e118]
        by_cases h2 : w_k_wi d 0 999
        · rw [w_k_ift h2, if_pos ⟨hm.2 (Or.inr h1), h2⟩]; rfl
        · rw [w_k_iff h2, if_neg (fun h => h2 h.2)]; rfl
      · rw [w_k_iff h1, if_neg (fun h => (hm.1 h.1).elim h0 h1)]; rfl
  rw [e]
  unfold w_a_harm; split
  · have hv := H.2.2.2.2.1
    refine w_ok_some ⟨congrArg Sum.inl hv.1.2.2.1, w_k_CI_V hA (fun x h1 _ h2 => ?_) H (w_k_CV_mk hv (w_k_Vb hA.2.2.2.1).1 (w_k_Vb hA.2.2.2.1).2.1 rfl rfl rfl (fun j hj => by simp (disch := omega) only [w_k_un]) (fun x h1 h2 => ?_) ?_), fun y hy => ?_⟩
    · dsimp only; simp (disch := omega) only [w_k_wn]
    · dsimp only; simp (disch := omega) only [w_k_wn]
    · exact ⟨hv.1.1, hv.1.2.1, rfl, rfl, hv.1.2.2.2.2.1, hv.1.2.2.2.2.2.1⟩
    · dsimp only; simp (disch := omega) only [w_k_wn]
  · exact w_ok_some ⟨rfl, H, fun _ _ => rfl⟩
theorem w_m_harm {TR : w_k_TR} {s : g_S} {A : w_k_A} {v d : Int32} (hA : w_k_Aok A) (H : w_k_MI TR s A) : w_k_mop TR w_k_cI s (f178 s v d) (w_a_harm A.2.2.2.1 v d).1 (w_k_sV A (w_a_harm A.2.2.2.1 v d).2) := by
  have e : f178 s v d = if w_k_wi v (-1) 5 ∧ w_k_wi d 0 999 then some (s 199 28, g_w (g_w (g_w s 199 0 0) 199 28 v) 199 29 d) else some (0, g_w (g_w s 199 0 0) 199 0 1) := by
    unfold f178 f178_14 f178_17; rw [w_k_let, w_e135]
    by_cases h : w_k_wi v (-1) 5
    · rw [w_k_ift h, w_k_bs, if_neg (by decide), w_e135]
      by_cases h2 : w_k_wi d 0 999
      · rw [w_k_ift h2, if_pos ⟨h, h2⟩, w_k_bs, if_neg (by decide), w_e134o w_k_00]; rfl
      · rw [w_k_iff h2, if_neg (fun g => h2 g.2), w_k_bs, if_pos rfl, w_e134b w_k_00 (by decide)]; rfl
    · rw [w_k_iff h, if_neg (fun g => h g.1), w_k_bs, if_pos rfl, w_e134b w_k_00 (by decide)]; rfl
  rw [e]
  have hv := H.2.2.2.1
  unfold w_a_harm; split
  · refine w_ok_some ⟨w_k_MI_V hA (fun x b h1 h2 h3 h4 => ?_) H (w_k_MV_mk hv (fun j hj => by simp (disch := omega) only [w_k_un]) (fun x h1 h2 => ?_) ?_), fun y hy => ?_, fun w hw => ?_, fun e he => by cases he⟩
    · unfold w_k_sM at h3; unfold w_k_ch at h4; dsimp only; simp (disch := omega) only [w_k_wq]
    · dsimp only; simp (disch := omega) only [w_k_wn]
    · exact ⟨hv.1.1, hv.1.2.1, rfl, rfl, hv.1.2.2.2.2.1, hv.1.2.2.2.2.2.1, hv.1.2.2.2.2.2.2.1, hv.1.2.2.2.2.2.2.2⟩
    · dsimp only; simp (disch := omega) only [w_k_wn]
    · cases hw; exact ⟨rfl, hv.1.2.2.1⟩
  · exact w_m_ref hA H rfl
/-! hand, purse, judge, fact -/
def w_a_hand (V : w_k_V) (p w : Int32) : Int32 ⊕ Nat := if w_k_wi p 0 (V 0 - 1) then (if w_k_wi w 0 5 then .inl (if w = 5 then V (15 + 12 * p.toNatClampNeg) else if p = 0 then -1 else V (10 + 12 * p.toNatClampNeg + w.toNatClampNeg)) else .inr 0) else .inr 1
theorem w_k_hx {n : Nat} {V : w_k_V} {p : Int32} (h : w_k_Vok n V) (hp : w_k_wi p 0 (V 0 - 1)) : ∃ k, k < w_k_hc V ∧ k < 13 ∧ p = nI k := by
  obtain ⟨k, hk, e⟩ := w_k_i1 (w_k_hcI h) (by have := (w_k_Vb h).1; omega) hp
  exact ⟨k, hk, by have := (w_k_Vb h).1; omega, e⟩
theorem w_k_sVs (A : w_k_A) : w_k_sV A A.2.2.2.1 = A := rfl
theorem w_k_02 : (2 : Int32) ≠ 0 := by decide
theorem w_k_01 : ¬ ((1 : Int32) = 0) := by decide
theorem w_e25 {s : g_S} {x i : Nat} (hi : i ≤ 5) : f25 s x (nI i) = some (s x i) := by
  match i, hi with
  | 0, _ => rfl
  | 1, _ => rfl
  | 2, _ => rfl
  | 3, _ => rfl
  | 4, _ => rfl
  | 5, _ => rfl
theorem w_c_hand {s : g_S} {A : w_k_A} {p w : Int32} (hA : w_k_Aok A) (H : w_k_CI s A) : w_k_cop s (f85 s p w) (w_a_hand A.2.2.2.1 p w) A := by
  have hv := H.2.2.2.2.1
  unfold f85 w_a_hand
  by_cases h1 : w_k_wi p 0 (A.2.2.2.1 0 - 1)
  · obtain ⟨k, hk, hk3, rfl⟩ := w_k_hx hA.2.2.2.1 h1
    rw [w_e117t (by rw [hv.1.1]; exact h1), w_k_tbl, w_e118, if_pos h1]
    by_cases h2 : w_k_wi w 0 5
    · obtain ⟨i, hi, rfl⟩ := w_k_iL 5 h2 rfl (by omega)
      rw [w_k_ift h2, w_k_bs, w_e116t, w_k_tbl, if_pos (w_k_hin hk3), if_pos h2, w_k_nat (by omega), w_k_nat (by omega)]
      obtain ⟨g1, g2, _⟩ := hv.2.1 k hk
      rw [w_e25 hi, w_k_bs]
      refine w_ok_some ⟨congrArg Sum.inl ?_, H, fun _ _ => rfl⟩
      rw [show 28 + k = 22 + 6 + k from rfl]
      have q : (nI k = 0) ↔ k = 0 := w_k_eq (b := 0) (by omega) (by omega)
      match i, hi with
      | 5, _ => exact g2
      | 0, _ => exact (g1 0 (by omega)).trans (by simp only [q]; rfl)
      | 1, _ => exact (g1 1 (by omega)).trans (by simp only [q]; rfl)
      | 2, _ => exact (g1 2 (by omega)).trans (by simp only [q]; rfl)
      | 3, _ => exact (g1 3 (by omega)).trans (by simp only [q]; rfl)
      | 4, _ => exact (g1 4 (by omega)).trans (by simp only [q]; rfl)
    · rw [w_k_iff h2, if_neg h2]
      exact w_ok_some ⟨rfl, H, fun _ _ => rfl⟩
  · rw [w_e117f (by rw [hv.1.1]; exact h1), if_neg h1]
    exact w_ok_some ⟨rfl, H, fun _ _ => rfl⟩
theorem w_k_mh {TR : w_k_TR} {s : g_S} {A : w_k_A} (H : w_k_MI TR s A) : g_w s 199 0 0 199 26 = A.2.2.2.1 0 := by rw [w_k_0n (by omega)]; exact H.2.2.2.1.1.1
theorem w_k_g2 {s : g_S} {c d : Prop} [Decidable c] [Decidable d] {K : Int32 → g_S → Option (Int32 × g_S)} (hs : s 199 0 = 0) :
    (if w_k_if c = 0 then (g_bd (f134 s 1 1) fun v1 s2 => if v1 = 0 then ((some (w_k_if d)).bind fun v4 => if v4 = 0 then K 1 s2 else K 0 s2) else some (0, s2)) else (g_bd (f134 s 0 1) fun v1 s2 => if v1 = 0 then ((some (w_k_if d)).bind fun v4 => if v4 = 0 then K 1 s2 else K 0 s2) else some (0, s2)))
      = if c then (if d then K 0 s else K 1 s) else some (0, g_w s 199 0 1) := by
  by_cases hc : c
  · rw [w_k_ift hc, if_neg w_k_01, w_e134o hs, w_k_bd, if_pos hc]
    by_cases hd : d
    · rw [w_k_ift hd, if_pos hd]; rfl
    · rw [w_k_iff hd, if_neg hd]; rfl
  · rw [w_k_iff hc, if_pos rfl, w_e134b hs w_k_01, w_k_bd, if_neg hc, if_neg w_k_01]
theorem w_m_hand {TR : w_k_TR} {s : g_S} {A : w_k_A} {p w : Int32} (hA : w_k_Aok A) (H : w_k_MI TR s A) : w_k_mop TR w_k_cB s (f174 s p w) (w_a_hand A.2.2.2.1 p w) A := by
  have hv := H.2.2.2.1
  have e : f174 s p w = if w_k_wi p 0 (A.2.2.2.1 0 - 1) then (if w_k_wi w 0 5 then f174_23 (g_w s 199 0 0) p w 0 else f174_23 (g_w s 199 0 0) p w 1) else some (0, g_w (g_w s 199 0 0) 199 0 1) := by
    unfold f174; rw [w_k_let, w_e173, w_k_mh H, w_k_bs]
    unfold f174_11
    simp only [w_e135]
    exact w_k_g2 (K := fun v t => f174_23 t p w v) w_k_00
  rw [e]
  unfold w_a_hand
  by_cases h1 : w_k_wi p 0 (A.2.2.2.1 0 - 1)
  · obtain ⟨k, hk, hk3, rfl⟩ := w_k_hx hA.2.2.2.1 h1
    rw [if_pos h1, if_pos h1]
    by_cases h2 : w_k_wi w 0 5
    · obtain ⟨i, hi, rfl⟩ := w_k_iL 5 h2 rfl (by omega)
      rw [if_pos h2, if_pos h2]
      unfold f174_23
      rw [w_e134o w_k_00, w_k_bd, if_pos rfl, w_k_0x (by omega), w_k_0x (by omega), w_k_nat (by omega), w_k_nat (by omega), if_pos (w_k_hin hk3)]
      have q5 : (nI i = 5) ↔ i = 5 := w_k_eq (b := 5) (by omega) (by omega)
      have q : (nI k = 0) ↔ k = 0 := w_k_eq (b := 0) (by omega) (by omega)
      simp only [q5, q]
      by_cases hi5 : i = 5
      · rw [if_pos hi5, if_pos hi5, (hv.2.2.1 k hk3).1]
        exact w_m_ans hA H
      · rw [if_neg hi5, if_neg hi5]
        by_cases hk0 : k = 0
        · rw [if_pos hk0, if_pos hk0]
          exact w_m_ans hA H
        · rw [if_neg hk0, if_neg hk0, if_pos (w_k_hin hk3), if_pos ((w_k_inI (by omega)).2 (by omega)), hv.2.1 k i hk3 (by omega)]
          exact w_m_ans hA H
    · rw [if_neg h2, if_neg h2]
      unfold f174_23
      rw [w_e134b w_k_00 w_k_02, w_k_bd, if_neg w_k_01]
      exact w_m_ref hA H rfl
  · rw [if_neg h1, if_neg h1]
    exact w_m_ref hA H rfl

theorem w_m_two {TR : w_k_TR} {s : g_S} {A B : w_k_A} {p : Int32} {c : Prop} [Decidable c] {x y z : Option (Int32 × g_S)} {r : Int32 ⊕ Nat} (hA : w_k_Aok A) (H : w_k_MI TR s A)
    (hx : x = if w_k_wi p 0 (A.2.2.2.1 0 - 1) then (if c then y else z) else some (0, g_w (g_w s 199 0 0) 199 0 1))
    (hz : z = some (0, g_w (g_w s 199 0 0) 199 0 2)) (hy : ∀ k, k < w_k_hc A.2.2.2.1 → k < 13 → p = nI k → c → w_k_mop TR w_k_cB s y r B) :
    w_k_mop TR w_k_cB s x (if w_k_wi p 0 (A.2.2.2.1 0 - 1) then (if c then r else .inr 0) else .inr 1) (if w_k_wi p 0 (A.2.2.2.1 0 - 1) then (if c then B else A) else A) := by
  subst hx hz
  by_cases h1 : w_k_wi p 0 (A.2.2.2.1 0 - 1)
  · obtain ⟨k, hk, hk3, e⟩ := w_k_hx hA.2.2.2.1 h1
    simp only [if_pos h1]
    by_cases h2 : c
    · simp only [if_pos h2]; exact hy k hk hk3 e h2
    · simp only [if_neg h2]; exact w_m_ref hA H rfl
  · simp only [if_neg h1]; exact w_m_ref hA H rfl
theorem w_c_two {s : g_S} {A B : w_k_A} {p v w : Int32} {x : Option ((Int32 ⊕ Nat) × g_S)} {y : g_S → Option ((Int32 ⊕ Nat) × g_S)} {r : Int32 ⊕ Nat} (hA : w_k_Aok A) (H : w_k_CI s A)
    (hx : x = g_tb (f117 s p) fun _ s2 => (f118 s2 v w).bind fun v3 => g_tb (f116 s2 v3) fun _ s5 => y s5)
    (hy : ∀ k, k < w_k_hc A.2.2.2.1 → k < 13 → p = nI k → w_k_wi v 0 w → w_k_cop s (y s) r B) :
    w_k_cop s x (if w_k_wi p 0 (A.2.2.2.1 0 - 1) then (if w_k_wi v 0 w then r else .inr 0) else .inr 1) (if w_k_wi p 0 (A.2.2.2.1 0 - 1) then (if w_k_wi v 0 w then B else A) else A) := by
  subst hx
  have hv := H.2.2.2.2.1
  by_cases h1 : w_k_wi p 0 (A.2.2.2.1 0 - 1)
  · obtain ⟨k, hk, hk3, e⟩ := w_k_hx hA.2.2.2.1 h1
    rw [w_e117t (by rw [hv.1.1]; exact h1), w_k_tbl, w_e118]
    simp only [if_pos h1]
    by_cases h2 : w_k_wi v 0 w
    · simp only [if_pos h2]
      rw [w_k_ift h2, w_k_bs, w_e116t, w_k_tbl]
      exact hy k hk hk3 e h2
    · simp only [if_neg h2]
      rw [w_k_iff h2]
      exact w_ok_some ⟨rfl, H, fun _ _ => rfl⟩
  · rw [w_e117f (by rw [hv.1.1]; exact h1)]
    simp only [if_neg h1]
    exact w_ok_some ⟨rfl, H, fun _ _ => rfl⟩
def w_a_purse (V : w_k_V) (p v : Int32) : (Int32 ⊕ Nat) × w_k_V := (.inl (V (15 + 12 * p.toNatClampNeg)), upd V (15 + 12 * p.toNatClampNeg) v)
def w_a_two (A : w_k_A) (p : Int32) (c : Prop) [Decidable c] (r : (Int32 ⊕ Nat) × w_k_V) : (Int32 ⊕ Nat) × w_k_A :=
  (if w_k_wi p 0 (A.2.2.2.1 0 - 1) then (if c then r.1 else .inr 0) else .inr 1, if w_k_wi p 0 (A.2.2.2.1 0 - 1) then (if c then w_k_sV A r.2 else A) else A)
theorem w_v_two {A : w_k_A} {p : Int32} {c : Prop} [Decidable c] {r : (Int32 ⊕ Nat) × w_k_V} (hA : w_k_Aok A) (h : ∀ k, k < w_k_hc A.2.2.2.1 → k < 13 → p = nI k → c → w_k_Vok A.2.2.1.length r.2) : w_k_Aok (w_a_two A p c r).2 := by
  unfold w_a_two
  by_cases h1 : w_k_wi p 0 (A.2.2.2.1 0 - 1)
  · obtain ⟨k, hk, hk3, e⟩ := w_k_hx hA.2.2.2.1 h1
    simp only [if_pos h1]
    by_cases h2 : c
    · simp only [if_pos h2]; exact w_k_Aok_V hA (h k hk hk3 e h2)
    · simp only [if_neg h2]; exact hA
  · simp only [if_neg h1]; exact hA
theorem w_v_purse {A : w_k_A} {p v : Int32} (hA : w_k_Aok A) : w_k_Aok (w_a_two A p (w_k_wi v 0 9999) (w_a_purse A.2.2.2.1 p v)).2 := by
  refine w_v_two hA (fun k hk hk3 e h2 => ?_)
  subst e
  unfold w_a_purse
  rw [w_k_nat (by omega)]
  refine w_k_Vok_h hA.2.2.2.1 hk3 (fun j hj => by dsimp only; rw [w_k_un (by omega)]) (fun h1 _ => ?_) (fun f hf => ?_) (fun _ => ?_)
  · dsimp only; simp (disch := omega) only [w_k_un]; exact hA.2.2.2.1.2.2.2.2.2.2.2.1 k h1 hk
  · dsimp only; simp (disch := omega) only [w_k_un]; exact hA.2.2.2.1.2.2.2.2.2.2.2.2.1 k f hk3 hf
  · dsimp only; rw [w_k_ue]; exact h2
theorem w_c_purse {s : g_S} {A : w_k_A} {p v : Int32} (hA : w_k_Aok A) (H : w_k_CI s A) : w_k_cop s (f87 s p v) (w_a_two A p (w_k_wi v 0 9999) (w_a_purse A.2.2.2.1 p v)).1 (w_a_two A p (w_k_wi v 0 9999) (w_a_purse A.2.2.2.1 p v)).2 := by
  have hv := H.2.2.2.2.1
  refine w_c_two hA H (y := fun s5 => if m_in p 13 = true then g_let (g_w s5 (28 + p.toNatClampNeg) 5 v) fun s7 => some ((.inl (s5 (28 + p.toNatClampNeg) 5), s7)) else none) (by unfold f87; rfl) (fun k hk hk3 e h2 => ?_)
  subst e
  obtain ⟨g1, g2, g3, g4⟩ := hv.2.1 k hk
  dsimp only [w_a_purse]
  rw [if_pos (w_k_hin hk3), w_k_nat (by omega)]
  refine w_ok_some ⟨congrArg Sum.inl g2, w_k_CI_V hA (fun x h1 _ h2 => w_k_wn (by omega)) H ?_, fun y hy => w_k_wn (by omega)⟩
  refine w_k_CV_hand hv (w_k_Vb hA.2.2.2.1).1 (w_k_Vb hA.2.2.2.1).2.1 hk (fun j hj => w_k_un (by omega)) (fun x h1 h2 h3 => w_k_wn (by omega)) ?_
  show w_k_CH (g_w s (28 + k) 5 v) (28 + k) k _
  rw [show 22 + 6 + k = 28 + k from rfl] at g1 g3 g4
  obtain ⟨m, hm, g5, g6⟩ := g4
  refine ⟨fun i hi => ?_, ?_, ?_, m, hm, ?_, fun f hf => ?_⟩ <;> simp (disch := omega) only [w_k_wq, w_k_wv, w_k_un, w_k_ue]
  · exact g1 i hi
  · exact g3
  · exact g5
  · exact g6 f hf
theorem w_m_purse {TR : w_k_TR} {s : g_S} {A : w_k_A} {p v : Int32} (hA : w_k_Aok A) (H : w_k_MI TR s A) : w_k_mop TR w_k_cB s (f176 s p v) (w_a_two A p (w_k_wi v 0 9999) (w_a_purse A.2.2.2.1 p v)).1 (w_a_two A p (w_k_wi v 0 9999) (w_a_purse A.2.2.2.1 p v)).2 := by
  have hv := H.2.2.2.1
  refine w_m_two hA H (y := f176_23 (g_w s 199 0 0) p v 0) (z := f176_23 (g_w s 199 0 0) p v 1) ?_ ?_ (fun k hk hk3 e h2 => ?_)
  · unfold f176; rw [w_k_let, w_e173, w_k_mh H, w_k_bs]
    unfold f176_11
    simp only [w_e135]
    exact w_k_g2 (K := fun u t => f176_23 t p v u) w_k_00
  · unfold f176_23; rw [w_e134b w_k_00 w_k_02]; rfl
  subst e
  dsimp only [w_a_purse]
  unfold f176_23
  rw [w_e134o w_k_00, w_k_bd, if_pos rfl, if_pos (w_k_hin hk3), w_k_let, w_k_nat (by omega)]
  refine w_ok_some ⟨w_k_MI_V hA (fun x b h1 h2 h3 h4 => ?_) H (w_k_MV_hand hv hk3 (fun j hj => w_k_un (by omega)) ?_ ?_ ?_ ?_ ?_ ?_), fun y hy => ?_, fun w hw => ?_, fun e he => by cases he⟩
  · unfold w_k_sM at h3; unfold w_k_ch at h4; dsimp only; simp (disch := omega) only [w_k_wq]
  · intro b _ _ _ _ _ _; dsimp only; simp (disch := omega) only [w_k_wq]
  · intro x hx; dsimp only; simp (disch := omega) only [w_k_wn]
  · intro h hh hk; dsimp only; simp (disch := omega) only [w_k_wq]; exact ⟨trivial, trivial⟩
  · intro i hi; dsimp only; simp (disch := omega) only [w_k_wq, w_k_un]; exact hv.2.1 k i hk3 hi
  · dsimp only; simp (disch := omega) only [w_k_wq, w_k_wv, w_k_un, w_k_ue]; exact ⟨trivial, (hv.2.2.1 k hk3).2⟩
  · intro f hf; dsimp only; simp (disch := omega) only [w_k_wq, w_k_un]; exact hv.2.2.2.1 k f hk3 hf
  · dsimp only; simp (disch := omega) only [w_k_wn]
  · cases hw; refine ⟨?_, ?_⟩
    · dsimp only; simp (disch := omega) only [w_k_wq, w_k_wv]
    · dsimp only; simp (disch := omega) only [w_k_wq]; exact (hv.2.2.1 k hk3).1
/-! judge, fact -/
def w_a_judge (V : w_k_V) (p v : Int32) : (Int32 ⊕ Nat) × w_k_V := (.inl (V (16 + 12 * p.toNatClampNeg)), upd V (16 + 12 * p.toNatClampNeg) v)
theorem w_v_judge {A : w_k_A} {p v : Int32} (hA : w_k_Aok A) : w_k_Aok (w_a_two A p (w_k_wi v 0 9999) (w_a_judge A.2.2.2.1 p v)).2 := by
  refine w_v_two hA (fun k hk hk3 e h2 => ?_)
  subst e
  unfold w_a_judge
  rw [w_k_nat (by omega)]
  refine w_k_Vok_h hA.2.2.2.1 hk3 (fun j hj => by dsimp only; rw [w_k_un (by omega)]) (fun h1 _ => ?_) (fun f hf => ?_) (fun _ => ?_)
  · dsimp only; simp (disch := omega) only [w_k_un]; exact hA.2.2.2.1.2.2.2.2.2.2.2.1 k h1 hk
  · dsimp only; simp (disch := omega) only [w_k_un]; exact hA.2.2.2.1.2.2.2.2.2.2.2.2.1 k f hk3 hf
  · dsimp only; rw [w_k_un (by omega)]; exact hA.2.2.2.1.2.2.2.2.2.2.2.2.2.2.2.2 k hk
theorem w_c_judge {s : g_S} {A : w_k_A} {p v : Int32} (hA : w_k_Aok A) (H : w_k_CI s A) : w_k_cop s (f109 s p v) (w_a_two A p (w_k_wi v 0 9999) (w_a_judge A.2.2.2.1 p v)).1 (w_a_two A p (w_k_wi v 0 9999) (w_a_judge A.2.2.2.1 p v)).2 := by
  have hv := H.2.2.2.2.1
  refine w_c_two hA H (y := fun s5 => if m_in p 13 = true then g_let (g_w s5 (28 + p.toNatClampNeg) 6 v) fun s7 => some ((.inl (s5 (28 + p.toNatClampNeg) 6), s7)) else none) (by unfold f109; rfl) (fun k hk hk3 e h2 => ?_)
  subst e
  obtain ⟨g1, g2, g3, g4⟩ := hv.2.1 k hk
  dsimp only [w_a_judge]
  rw [if_pos (w_k_hin hk3), w_k_nat (by omega)]
  refine w_ok_some ⟨congrArg Sum.inl g3, w_k_CI_V hA (fun x h1 _ h2 => w_k_wn (by omega)) H ?_, fun y hy => w_k_wn (by omega)⟩
  refine w_k_CV_hand hv (w_k_Vb hA.2.2.2.1).1 (w_k_Vb hA.2.2.2.1).2.1 hk (fun j hj => w_k_un (by omega)) (fun x h1 h2 h3 => w_k_wn (by omega)) ?_
  show w_k_CH (g_w s (28 + k) 6 v) (28 + k) k _
  rw [show 22 + 6 + k = 28 + k from rfl] at g1 g2 g4
  obtain ⟨m, hm, g5, g6⟩ := g4
  refine ⟨fun i hi => ?_, ?_, ?_, m, hm, ?_, fun f hf => ?_⟩ <;> simp (disch := omega) only [w_k_wq, w_k_wv, w_k_un, w_k_ue]
  · exact g1 i hi
  · exact g2
  · exact g5
  · exact g6 f hf
theorem w_m_judge {TR : w_k_TR} {s : g_S} {A : w_k_A} {p v : Int32} (hA : w_k_Aok A) (H : w_k_MI TR s A) : w_k_mop TR w_k_cB s (f212 s p v) (w_a_two A p (w_k_wi v 0 9999) (w_a_judge A.2.2.2.1 p v)).1 (w_a_two A p (w_k_wi v 0 9999) (w_a_judge A.2.2.2.1 p v)).2 := by
  have hv := H.2.2.2.1
  refine w_m_two hA H (y := f212_23 (g_w s 199 0 0) p v 0) (z := f212_23 (g_w s 199 0 0) p v 1) ?_ ?_ (fun k hk hk3 e h2 => ?_)
  · unfold f212; rw [w_k_let, w_e173, w_k_mh H, w_k_bs]
    unfold f212_11
    simp only [w_e135]
    exact w_k_g2 (K := fun u t => f212_23 t p v u) w_k_00
  · unfold f212_23; rw [w_e134b w_k_00 w_k_02]; rfl
  subst e
  dsimp only [w_a_judge]
  unfold f212_23
  rw [w_e134o w_k_00, w_k_bd, if_pos rfl, if_pos (w_k_hin hk3), w_k_let, w_k_nat (by omega)]
  refine w_ok_some ⟨w_k_MI_V hA (fun x b h1 h2 h3 h4 => ?_) H (w_k_MV_hand hv hk3 (fun j hj => w_k_un (by omega)) ?_ ?_ ?_ ?_ ?_ ?_), fun y hy => ?_, fun w hw => ?_, fun e he => by cases he⟩
  · unfold w_k_sM at h3; unfold w_k_ch at h4; dsimp only; simp (disch := omega) only [w_k_wq]
  · intro b _ _ _ _ _ _; dsimp only; simp (disch := omega) only [w_k_wq]
  · intro x hx; dsimp only; simp (disch := omega) only [w_k_wn]
  · intro h hh hk; dsimp only; simp (disch := omega) only [w_k_wq]; exact ⟨trivial, trivial⟩
  · intro i hi; dsimp only; simp (disch := omega) only [w_k_wq, w_k_un]; exact hv.2.1 k i hk3 hi
  · dsimp only; simp (disch := omega) only [w_k_wq, w_k_wv, w_k_un, w_k_ue]; exact ⟨(hv.2.2.1 k hk3).1, trivial⟩
  · intro f hf; dsimp only; simp (disch := omega) only [w_k_wq, w_k_un]; exact hv.2.2.2.1 k f hk3 hf
  · dsimp only; simp (disch := omega) only [w_k_wn]
  · cases hw; refine ⟨?_, ?_⟩
    · dsimp only; simp (disch := omega) only [w_k_wq, w_k_wv]
    · dsimp only; simp (disch := omega) only [w_k_wq]; exact (hv.2.2.1 k hk3).2

theorem w_k_bit0 : ∀ m, m < 16 → ∀ f, f < 4 → (if (((nI m) >>> (nI f &&& 31)) &&& 1) = 1 then some (1 : Int32) else some 0) = some (w_q_b (m.testBit f)) := by decide +kernel
def w_k_mb (m f : Nat) (b : Bool) : Nat := if b = true then m ||| (1 <<< f) else m &&& (15 ^^^ (1 <<< f))
theorem w_k_bit1 : ∀ m, m < 16 → ∀ f, f < 4 → nI m ||| ((1 : Int32) <<< (nI f &&& 31)) = nI (w_k_mb m f true) := by decide +kernel
theorem w_k_bit2 : ∀ m, m < 16 → ∀ f, f < 4 → nI m &&& (((1 : Int32) <<< (nI f &&& 31)) ^^^ (-1)) = nI (w_k_mb m f false) := by decide +kernel
theorem w_k_bit3 : ∀ m, m < 16 → ∀ f, f < 4 → ∀ b, w_k_mb m f b < 16 ∧ ∀ g, g < 4 → (w_k_mb m f b).testBit g = if g = f then b else m.testBit g := by decide +kernel
theorem w_k_isb {b : Int32} (h : m_isb b = true) : b = 0 ∨ b = 1 := by
  unfold m_isb at h
  rw [Bool.or_eq_true] at h
  rcases h with h | h
  · exact Or.inl (eq_of_beq h)
  · exact Or.inr (eq_of_beq h)
theorem w_k_isq {b : Bool} : m_isb (w_q_b b) = true := by cases b <;> rfl
theorem w_k_qb {b : Int32} (h : m_isb b = true) : ∃ c : Bool, b = w_q_b c := by
  rcases w_k_isb h with rfl | rfl
  · exact ⟨false, rfl⟩
  · exact ⟨true, rfl⟩
theorem w_k_tell {s : g_S} {x h f : Nat} {V : w_k_V} {b : Int32} (H : w_k_CH s x h V) (hf : f < 4) (hb : m_isb b = true) :
    ∃ m, m < 16 ∧ f27 s x (nI f) b = some (g_w s x 7 (nI m)) ∧ w_k_CH (g_w s x 7 (nI m)) x h (upd V (17 + 12 * h + f) b) ∧ f26 s x (nI f) = some (V (17 + 12 * h + f)) := by
  obtain ⟨g1, g2, g3, m, hm, g4, g5⟩ := H
  obtain ⟨c, rfl⟩ := w_k_qb hb
  obtain ⟨q1, q2⟩ := w_k_bit3 m hm f hf c
  refine ⟨w_k_mb m f c, q1, ?_, ⟨fun i hi => ?_, ?_, ?_, w_k_mb m f c, q1, ?_, fun g hg => ?_⟩, ?_⟩
  · unfold f27 f27_18
    rw [g4]
    cases c with
    | false => rw [if_pos (show w_q_b false = 0 from rfl), w_k_bit2 m hm f hf]; rfl
    | true => rw [if_neg (by decide), w_k_bit1 m hm f hf]; rfl
  · rw [w_k_wq (by omega), w_k_un (by omega)]; exact g1 i hi
  · rw [w_k_wq (by omega), w_k_un (by omega)]; exact g2
  · rw [w_k_wq (by omega), w_k_un (by omega)]; exact g3
  · rw [w_k_wv]
  · rw [q2 g hg]
    by_cases e : g = f
    · subst e; rw [w_k_ue, if_pos rfl]
    · rw [w_k_un (by omega), if_neg e]; exact g5 g hg
  · unfold f26
    rw [g4, w_k_bit0 m hm f hf, g5 f hf]
theorem w_k_Vok_b {n k f : Nat} {V : w_k_V} {b : Int32} (H : w_k_Vok n V) (hk : k < 13) (hf : f < 4) (hb : m_isb b = true) : w_k_Vok n (upd V (17 + 12 * k + f) b) := by
  refine w_k_Vok_h H hk (fun j hj => w_k_un (by omega)) (fun h1 h2 => ?_) (fun g hg => ?_) (fun h2 => ?_)
  · simp (disch := omega) only [w_k_un]; exact H.2.2.2.2.2.2.2.1 k h1 h2
  · by_cases e : g = f
    · subst e; rw [w_k_ue]; exact hb
    · rw [w_k_un (by omega)]; exact H.2.2.2.2.2.2.2.2.1 k g hk hg
  · simp (disch := omega) only [w_k_un]; exact H.2.2.2.2.2.2.2.2.2.2.2.2 k h2
def w_a_fact (V : w_k_V) (p f b : Int32) : (Int32 ⊕ Nat) × w_k_V := (.inl (V (17 + 12 * p.toNatClampNeg + f.toNatClampNeg)), upd V (17 + 12 * p.toNatClampNeg + f.toNatClampNeg) b)
theorem w_v_fact {A : w_k_A} {p f b : Int32} (hA : w_k_Aok A) (hb : m_isb b = true) : w_k_Aok (w_a_two A p (w_k_wi f 0 3) (w_a_fact A.2.2.2.1 p f b)).2 := by
  refine w_v_two hA (fun k hk hk3 e h2 => ?_)
  obtain ⟨i, hi, rfl⟩ := w_k_iL 3 h2 rfl (by omega)
  subst e
  unfold w_a_fact
  rw [w_k_nat (by omega), w_k_nat (by omega)]
  exact w_k_Vok_b hA.2.2.2.1 hk3 (by omega) hb
theorem w_c_fact {s : g_S} {A : w_k_A} {p f b : Int32} (hA : w_k_Aok A) (hb : m_isb b = true) (H : w_k_CI s A) : w_k_cop s (f88 s p f b) (w_a_two A p (w_k_wi f 0 3) (w_a_fact A.2.2.2.1 p f b)).1 (w_a_two A p (w_k_wi f 0 3) (w_a_fact A.2.2.2.1 p f b)).2 := by
  have hv := H.2.2.2.2.1
  refine w_c_two hA H (y := fun s5 => if m_in p 13 = true then (f26 s5 (28 + p.toNatClampNeg) f).bind fun v7 => (f27 s5 (28 + p.toNatClampNeg) f b).bind fun s9 => if m_isb v7 = true then some ((.inl v7, s9)) else none else none) (by unfold f88; rfl) (fun k hk hk3 e h2 => ?_)
  obtain ⟨i, hi, rfl⟩ := w_k_iL 3 h2 rfl (by omega)
  subst e
  have hc := hv.2.1 k hk
  rw [show 22 + 6 + k = 28 + k from rfl] at hc
  obtain ⟨m, hm, q1, q2, q3⟩ := w_k_tell hc (f := i) (by omega) hb
  dsimp only [w_a_fact]
  rw [if_pos (w_k_hin hk3), w_k_nat (by omega), w_k_nat (by omega), q3, w_k_bs, q1, w_k_bs, if_pos (hA.2.2.2.1.2.2.2.2.2.2.2.2.1 k i hk3 (by omega))]
  refine w_ok_some ⟨rfl, w_k_CI_V hA (fun x h1 _ h2 => w_k_wn (by omega)) H ?_, fun y hy => w_k_wn (by omega)⟩
  exact w_k_CV_hand hv (w_k_Vb hA.2.2.2.1).1 (w_k_Vb hA.2.2.2.1).2.1 hk (fun j hj => w_k_un (by omega)) (fun x h1 h2 h3 => w_k_wn (by omega)) q2
theorem w_m_fact {TR : w_k_TR} {s : g_S} {A : w_k_A} {p f b : Int32} (hA : w_k_Aok A) (hb : m_isb b = true) (H : w_k_MI TR s A) : w_k_mop TR w_k_cB s (f177 s p f b) (w_a_two A p (w_k_wi f 0 3) (w_a_fact A.2.2.2.1 p f b)).1 (w_a_two A p (w_k_wi f 0 3) (w_a_fact A.2.2.2.1 p f b)).2 := by
  have hv := H.2.2.2.1
  refine w_m_two hA H (y := f177_23 (g_w s 199 0 0) p f b 0) (z := f177_23 (g_w s 199 0 0) p f b 1) ?_ ?_ (fun k hk hk3 e h2 => ?_)
  · unfold f177; rw [w_k_let, w_e173, w_k_mh H, w_k_bs]
    unfold f177_11
    simp only [w_e135]
    exact w_k_g2 (K := fun u t => f177_23 t p f b u) w_k_00
  · unfold f177_23; rw [w_e134b w_k_00 w_k_02]; rfl
  obtain ⟨i, hi, rfl⟩ := w_k_iL 3 h2 rfl (by omega)
  subst e
  dsimp only [w_a_fact]
  unfold f177_23
  have hq : g_w s 199 0 0 (225 + k) i = A.2.2.2.1 (17 + 12 * k + i) := by rw [w_k_wq (by omega)]; exact hv.2.2.2.1 k i hk3 (by omega)
  rw [w_e134o w_k_00, w_k_bd, if_pos rfl, if_pos (w_k_hin hk3), if_pos ((w_k_inI (by omega)).2 (by omega)), if_pos hb, w_k_let, w_k_nat (by omega), w_k_nat (by omega), hq, if_pos (hA.2.2.2.1.2.2.2.2.2.2.2.2.1 k i hk3 (by omega))]
  refine w_ok_some ⟨w_k_MI_V hA (fun x b h1 h2 h3 h4 => ?_) H (w_k_MV_hand hv hk3 (fun j hj => w_k_un (by omega)) ?_ ?_ ?_ ?_ ?_ ?_), fun y hy => ?_, fun w hw => ?_, fun e he => by cases he⟩
  · unfold w_k_sM at h3; unfold w_k_ch at h4; dsimp only; simp (disch := omega) only [w_k_wq]
  · intro b _ _ _ _ _ _; dsimp only; simp (disch := omega) only [w_k_wq]
  · intro x hx; dsimp only; simp (disch := omega) only [w_k_wn]
  · intro h hh hk; dsimp only; simp (disch := omega) only [w_k_wq]; exact ⟨trivial, trivial⟩
  · intro i hi; dsimp only; simp (disch := omega) only [w_k_wq, w_k_un]; exact hv.2.1 k i hk3 hi
  · dsimp only; simp (disch := omega) only [w_k_wq, w_k_wv, w_k_un, w_k_ue]; exact hv.2.2.1 k hk3
  · intro g hg; dsimp only
    by_cases e : g = i
    · subst e; rw [w_k_wv, w_k_ue]
    · simp (disch := omega) only [w_k_wq, w_k_un]; exact hv.2.2.2.1 k g hk3 hg
  · dsimp only; simp (disch := omega) only [w_k_wn]
  · cases hw; refine ⟨?_, rfl⟩
    dsimp only; simp (disch := omega) only [w_k_wq, w_k_wv]
