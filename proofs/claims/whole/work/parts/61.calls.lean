/-! Calls that tell one thing of the chain. -/
theorem k_sum_cg {V W : k_V} : ∀ p, (∀ q, q < p → W (201 + 2 * q) = V (201 + 2 * q)) → k_sum W p = k_sum V p
  | 0, _ => rfl
  | p + 1, h => by
    show k_sum W p + W (201 + 2 * p) = k_sum V p + V (201 + 2 * p)
    rw [k_sum_cg p (fun q hq => h q (by omega)), h p (by omega)]
theorem k_Vok_f {n : Nat} {V W : k_V} (H : k_Vok n V) (hV : ∀ j, j = 0 ∨ 5 ≤ j → W j = V j) (c1 : k_wi (W 1) 0 9999) (c2 : k_wi (W 2) (-1) 5) (c3 : k_wi (W 3) 0 999) (c4 : W 4 = -1 ∨ ∃ l, l < n ∧ W 4 = nI l) : k_Vok n W := by
  obtain ⟨a1, a2, a3, a4, a5, a6, a7, a8, a9, b1, b2, b3, b4⟩ := H
  have e0 : k_hc W = k_hc V := congrArg Int32.toNatClampNeg (hV 0 (by omega))
  have e5 : k_qc W = k_qc V := congrArg Int32.toNatClampNeg (hV 5 (by omega))
  have e6 : k_pc W = k_pc V := congrArg Int32.toNatClampNeg (hV 6 (by omega))
  unfold k_Vok
  rw [e0, e5, e6, hV 0 (by omega), hV 5 (by omega), hV 6 (by omega), hV 7 (by omega), k_sum_cg (V := V) (W := W) _ (fun q _ => hV _ (by omega))]
  refine ⟨a1, a2, a3, c2, c3, c4, a7, fun h h1 h2 => ?_, fun h f h1 h2 => ?_, fun q hq => ?_, fun p hp => ?_, c1, fun h hh => ?_⟩
  · rw [hV _ (by omega), hV _ (by omega), hV _ (by omega)]; exact a8 h h1 h2
  · rw [hV _ (by omega)]; exact a9 h f h1 h2
  · rw [hV _ (by omega), hV _ (by omega), hV _ (by omega)]; exact b1 q hq
  · rw [hV _ (by omega)]; exact b2 p hp
  · rw [hV _ (by omega)]; exact b4 h hh
theorem k_Vok_h {n k : Nat} {V W : k_V} (H : k_Vok n V) (hk : k < 13) (hV : ∀ j, j < 10 + 12 * k ∨ 21 + 12 * k ≤ j → W j = V j)
    (c1 : 1 ≤ k → k < k_hc V → k_wi (W (10 + 12 * k)) 0 5 ∧ k_wi (W (11 + 12 * k)) 0 999 ∧ k_wi (W (13 + 12 * k)) 0 3)
    (c2 : ∀ f, f < 4 → m_isb (W (17 + 12 * k + f)) = true) (c3 : k < k_hc V → k_wi (W (15 + 12 * k)) 0 9999) : k_Vok n W := by
  obtain ⟨a1, a2, a3, a4, a5, a6, a7, a8, a9, b1, b2, b3, b4⟩ := H
  have e0 : k_hc W = k_hc V := congrArg Int32.toNatClampNeg (hV 0 (by omega))
  have e5 : k_qc W = k_qc V := congrArg Int32.toNatClampNeg (hV 5 (by omega))
  have e6 : k_pc W = k_pc V := congrArg Int32.toNatClampNeg (hV 6 (by omega))
  unfold k_Vok
  rw [e0, e5, e6, hV 0 (by omega), hV 1 (by omega), hV 2 (by omega), hV 3 (by omega), hV 4 (by omega), hV 5 (by omega), hV 6 (by omega), hV 7 (by omega), k_sum_cg (V := V) (W := W) _ (fun q _ => hV _ (by omega))]
  refine ⟨a1, a2, a3, a4, a5, a6, a7, fun h h1 h2 => ?_, fun h f h1 h2 => ?_, fun q hq => ?_, fun p hp => ?_, b3, fun h hh => ?_⟩
  · by_cases e : h = k
    · subst e; exact c1 h1 h2
    · rw [hV _ (by omega), hV _ (by omega), hV _ (by omega)]; exact a8 h h1 h2
  · by_cases e : h = k
    · subst e; exact c2 f h2
    · rw [hV _ (by omega)]; exact a9 h f h1 h2
  · rw [hV _ (by omega), hV _ (by omega), hV _ (by omega)]; exact b1 q hq
  · rw [hV _ (by omega)]; exact b2 p hp
  · by_cases e : h = k
    · subst e; exact c3 hh
    · rw [hV _ (by omega)]; exact b4 h hh
theorem k_wq {s : g_S} {x b y c : Nat} {v : Int32} (h : ¬ (y = x ∧ c = b)) : g_w s x b v y c = s y c := by
  by_cases e : y = x
  · subst e
    rw [k_we, k_un (fun e => h ⟨rfl, e⟩)]
  · rw [k_wn e]
theorem k_wv {s : g_S} {x b : Nat} {v : Int32} : g_w s x b v x b = v := by rw [k_we, k_ue]
/-! value -/
def a_val (V : k_V) (v : Int32) : (Int32 ⊕ Nat) × k_V := if k_wi v 0 9999 then (.inl (V 1), upd V 1 v) else (.inr 0, V)
theorem v_val {n : Nat} {V : k_V} {v : Int32} (h : k_Vok n V) : k_Vok n (a_val V v).2 := by
  unfold a_val; split
  · rename_i hv
    refine k_Vok_f h (fun j hj => k_un (by omega)) hv h.2.2.2.1 h.2.2.2.2.1 h.2.2.2.2.2.1
  · exact h
theorem c_val {s : g_S} {A : k_A} {v : Int32} (hA : k_Aok A) (H : k_CI s A) : k_cop s (f86 s v) (a_val A.2.2.2.1 v).1 (k_sV A (a_val A.2.2.2.1 v).2) := by
  rw [e86]
  unfold a_val; split
  · have hv := H.2.2.2.2.1
    refine ok_some ⟨congrArg Sum.inl hv.1.2.1, k_CI_V hA (fun x h1 _ h2 => k_wn (by omega)) H (k_CV_mk hv (k_Vb hA.2.2.2.1).1 (k_Vb hA.2.2.2.1).2.1 rfl rfl rfl (fun j hj => k_un (by omega)) (fun x h1 h2 => k_wn (by omega)) ?_), fun y hy => k_wn (by omega)⟩
    exact ⟨hv.1.1, rfl, hv.1.2.2.1, hv.1.2.2.2.1, hv.1.2.2.2.2.1, hv.1.2.2.2.2.2.1⟩
  · exact ok_some ⟨rfl, H, fun _ _ => rfl⟩
/-- the model refuses: nothing but thrown has changed -/
theorem m_ref {TR : k_TR} {cd : Nat → Int32} {s : g_S} {A : k_A} {v w : Int32} {e : Nat} (hA : k_Aok A) (H : k_MI TR s A) (hw : w = cd e) : k_mop TR cd s (some (v, g_w (g_w s 199 0 0) 199 0 w)) (.inr e) (k_sV A A.2.2.2.1) := by
  refine ok_some ⟨k_MI_cg hA (fun x b h1 h2 h3 => ?_) H, fun y hy => ?_, fun w hw => (by cases hw), fun e he => (by cases he; exact hw)⟩
  · unfold k_sM at h3; dsimp only; simp (disch := omega) only [k_wq]
  · dsimp only; simp (disch := omega) only [k_wn]
/-- the model answers: nothing but thrown has changed -/
theorem m_ans {TR : k_TR} {cd : Nat → Int32} {s : g_S} {A : k_A} {v : Int32} (hA : k_Aok A) (H : k_MI TR s A) : k_mop TR cd s (some (v, g_w s 199 0 0)) (.inl v) (k_sV A A.2.2.2.1) := by
  refine ok_some ⟨k_MI_cg hA (fun x b h1 h2 h3 => ?_) H, fun y hy => ?_, fun w hw => (by cases hw; exact ⟨rfl, rfl⟩), fun e he => (by cases he)⟩
  · unfold k_sM at h3; dsimp only; simp (disch := omega) only [k_wq]
  · dsimp only; simp (disch := omega) only [k_wn]
theorem m_val {TR : k_TR} {s : g_S} {A : k_A} {v : Int32} (hA : k_Aok A) (H : k_MI TR s A) : k_mop TR k_cI s (f175 s v) (a_val A.2.2.2.1 v).1 (k_sV A (a_val A.2.2.2.1 v).2) := by
  rw [e175]
  have hv := H.2.2.2.1
  unfold a_val; split
  · refine ok_some ⟨k_MI_V hA (fun x b h1 h2 h3 h4 => ?_) H (k_MV_mk hv (fun j hj => k_un (by omega)) (fun x h1 h2 => ?_) ?_), fun y hy => ?_, fun w hw => ?_, fun e he => by cases he⟩
    · unfold k_sM at h3; unfold k_ch at h4; dsimp only; simp (disch := omega) only [k_wq]
    · dsimp only; simp (disch := omega) only [k_wn]
    · exact ⟨hv.1.1, rfl, hv.1.2.2.1, hv.1.2.2.2.1, hv.1.2.2.2.2.1, hv.1.2.2.2.2.2.1, hv.1.2.2.2.2.2.2.1, hv.1.2.2.2.2.2.2.2⟩
    · dsimp only; simp (disch := omega) only [k_wn]
    · cases hw; exact ⟨rfl, hv.1.2.1⟩
  · exact m_ref hA H rfl
theorem glue3 {TR : k_TR} {s : g_S} {A B : k_A} {ex : Nat} {x4 : Int32} {cd : Nat → Int32} {x : Option ((Int32 ⊕ Nat) × g_S)} {M : g_S → Option (Int32 × g_S)} {r : Int32 ⊕ Nat} {W : Int32 → g_S → Option ((Int32 × Nat) × g_S)} {h : Nat → g_S → Option ((Int32 × Nat) × g_S)}
    {K : Int32 → Nat → g_S → Int32 → g_S → Int32 → Option ((Int32 × (g_S × Nat)) ⊕ (Int32 × (g_S × Nat)))}
    (hA : k_In TR s A) (hB : k_Aok B) (hc : k_cop s x r B) (hm : ∀ t, k_MI TR t A → k_mop TR cd t (M t) r B)
    (hr : ∀ e t, r = .inr e → h e t = some ((cd e, 1), t) ∧ cd e ≠ 0)
    (hW : ∀ v t, r = .inl v → W v t = some ((0, 0), g_w t 564 0 v))
    (hK : ∀ v t w, r = .inl v → w 564 0 = v → K 0 0 t v w 0 = some (.inl (x4 + 7, (w, ex + 0))))
    (hK2 : ∀ c u t w, c ≠ 0 → K c 1 t u w c = some (.inl (x4 + 7, (w, ex + 1)))) :
    OK (g_wd (g_wb x W h) fun v2 k4 s3 => g_bd (M s3) fun v5 s6 => (f133 s6).bind fun v7 => K v2 k4 s3 v5 s6 v7) (k_nx TR ex x4) := by
  obtain ⟨⟨w1, t⟩, rfl, h1, h2, h3⟩ := hc
  simp only at h1 h2 h3
  subst h1
  obtain ⟨hA1, hA2, hA3⟩ := hA
  cases w1 with
  | inl v =>
    show OK (g_wd (W v t) (fun v2 k4 s3 => g_bd (M s3) fun v5 s6 => (f133 s6).bind fun v7 => K v2 k4 s3 v5 s6 v7)) _
    rw [hW v t rfl]
    show OK (g_bd (M (g_w t 564 0 v)) (fun v5 s6 => (f133 s6).bind fun v7 => K 0 0 (g_w t 564 0 v) v5 s6 v7)) _
    have hM : k_MI TR (g_w t 564 0 v) A := k_MI_cg hA1 (fun y b h1 h2 _ => by rw [k_wn (by omega), h3 y h1]) hA3
    obtain ⟨⟨u, t2⟩, e2, g1, g2, g3, g4⟩ := hm _ hM
    simp only at g1 g2 g3 g4
    rw [e2, k_bd]
    obtain ⟨g5, g6⟩ := g3 v rfl
    show OK (K 0 0 _ u t2 (t2 199 0)) _
    rw [g5, g6, hK v _ _ rfl (by rw [g2 564 (Or.inr rfl), k_we, k_ue])]
    refine ok_some ⟨B, _, _, rfl, ⟨hB, k_CI_cg hB (fun y hy _ => ?_) h2, g1⟩, by omega⟩
    rw [g2 y (Or.inl hy), k_wn (by omega)]
  | inr e =>
    obtain ⟨q1, q2⟩ := hr e t rfl
    show OK (g_wd (h e t) _) _
    rw [q1]
    show OK (g_bd (M t) (fun v5 s6 => (f133 s6).bind fun v7 => K (cd e) 1 t v5 s6 v7)) _
    have hM : k_MI TR t A := k_MI_cg hA1 (fun y b h1 h2 _ => by rw [h3 y h1]) hA3
    obtain ⟨⟨u, t2⟩, e2, g1, g2, g3, g4⟩ := hm _ hM
    simp only at g1 g2 g3 g4
    rw [e2, k_bd]
    show OK (K (cd e) 1 _ u t2 (t2 199 0)) _
    rw [g4 e rfl, hK2 _ _ _ _ q2]
    refine ok_some ⟨B, _, _, rfl, ⟨hB, k_CI_cg hB (fun y hy _ => ?_) h2, g1⟩, by omega⟩
    rw [g2 y (Or.inl hy)]
theorem k_iI {a b : Nat} (hb : b < 2147483648) {x : Int32} (h : k_wi x (nI a) (nI b)) (ha : a < 2147483648) : ∃ k, a ≤ k ∧ k ≤ b ∧ x = nI k := by
  obtain ⟨h1, h2⟩ := h
  have h3 : ¬ x < 0 := by
    rw [Int32.lt_iff_toInt_lt, k_nI ha] at h1
    rw [Int32.lt_iff_toInt_lt]
    show ¬ x.toInt < 0
    omega
  obtain ⟨k, hk, rfl⟩ := k_of h3
  rw [k_lt hk ha] at h1
  rw [k_lt hb hk] at h2
  exact ⟨k, by omega, by omega, rfl⟩
theorem k_iL {x : Int32} (b : Nat) {y : Int32} (h : k_wi x 0 y) (hy : y = nI b) (hb : b < 2147483648) : ∃ k, k ≤ b ∧ x = nI k := by
  subst hy
  obtain ⟨k, _, h2, h3⟩ := k_iI (a := 0) hb h (by omega)
  exact ⟨k, h2, h3⟩
theorem k_i1 {x : Int32} {n : Nat} {y : Int32} (hy : y = nI n) (hn : n < 2147483648) (h : k_wi x 0 (y - 1)) : ∃ k, k < n ∧ x = nI k := by
  subst hy
  cases n with
  | zero =>
    exfalso
    obtain ⟨h1, h2⟩ := h
    rw [Int32.lt_iff_toInt_lt] at h1 h2
    have h3 : (nI 0 - 1).toInt = -1 := rfl
    have h4 : (0 : Int32).toInt = 0 := rfl
    omega
  | succ n =>
    rw [k_m1] at h
    obtain ⟨k, h2, h3⟩ := k_iL n h rfl (by omega)
    exact ⟨k, by omega, h3⟩
theorem k_iC {k n : Nat} (h : k ≤ n) (hn : n < 2147483648) : k_wi (nI k) 0 (nI n) := by
  constructor
  · show ¬ nI k < nI 0
    rw [k_lt (by omega) (by omega)]; omega
  · rw [k_lt (by omega) (by omega)]; omega
theorem k_hcI {n : Nat} {V : k_V} (h : k_Vok n V) : V 0 = nI (k_hc V) := h.1.1
theorem k_hin {k : Nat} (h : k < 13) : m_in (nI k) 13 = true := (k_inI (by omega)).2 h
theorem k_mA {TR : k_TR} {s t : g_S} {A : k_A} {W : k_V} (hA : k_Aok A) (H : k_MI TR s A) (h : ∀ x b, ¬ k_sM x b → ¬ k_ch x b → x ≠ 564 → t x b = s x b) (hW : k_MV t W) : k_MI TR t (k_sV A W) := k_MI_V hA (fun x b h1 h2 h3 h4 => h x b h3 h4 (by omega)) H hW
/-- one hand of the model anew -/
theorem k_MV_hand {s t : g_S} {k : Nat} {V W : k_V} (H : k_MV s V) (hk : k < 13) (hV : ∀ j, j < 10 + 12 * k ∨ 21 + 12 * k ≤ j → W j = V j)
    (h1 : ∀ b, 13 ≤ b → b < 51 → b ≠ 34 → b ≠ 46 → b ≠ 47 → ¬ (15 ≤ b ∧ b ≤ 25) → t 199 b = s 199 b) (h2 : ∀ x, (209 ≤ x ∧ x < 222 ∧ x ≠ 209 + k) ∨ (260 ≤ x ∧ x < 268) ∨ (540 ≤ x ∧ x < 560) ∨ (225 ≤ x ∧ x < 238 ∧ x ≠ 225 + k) → t x = s x)
    (h3 : ∀ h, h < 13 → h ≠ k → t 222 h = s 222 h ∧ t 223 h = s 223 h)
    (n1 : ∀ i, i < 5 → t (209 + k) i = W (10 + 12 * k + i)) (n2 : t 222 k = W (15 + 12 * k) ∧ t 223 k = W (16 + 12 * k)) (n3 : ∀ f, f < 4 → t (225 + k) f = W (17 + 12 * k + f)) : k_MV t W := by
  obtain ⟨a1, a2, a3, a4, a5, a6⟩ := H
  refine ⟨?_, fun h i hh hi => ?_, fun h hh => ?_, fun h f hh hf => ?_, fun q i hq hi => ?_, fun p hp => ?_⟩
  · rw [h1 26 (by omega) (by omega) (by omega) (by omega) (by omega) (by omega), h1 27 (by omega) (by omega) (by omega) (by omega) (by omega) (by omega), h1 28 (by omega) (by omega) (by omega) (by omega) (by omega) (by omega), h1 29 (by omega) (by omega) (by omega) (by omega) (by omega) (by omega), h1 13 (by omega) (by omega) (by omega) (by omega) (by omega) (by omega), h1 43 (by omega) (by omega) (by omega) (by omega) (by omega) (by omega), h1 49 (by omega) (by omega) (by omega) (by omega) (by omega) (by omega), h1 50 (by omega) (by omega) (by omega) (by omega) (by omega) (by omega)]
    rw [hV 0 (by omega), hV 1 (by omega), hV 2 (by omega), hV 3 (by omega), hV 4 (by omega), hV 5 (by omega), hV 6 (by omega), hV 7 (by omega)]
    exact a1
  · by_cases e : h = k
    · subst e; exact n1 i hi
    · rw [h2 _ (by omega), hV _ (by omega)]; exact a2 h i hh hi
  · by_cases e : h = k
    · subst e; exact n2
    · rw [(h3 h hh e).1, (h3 h hh e).2, hV _ (by omega), hV _ (by omega)]; exact a3 h hh
  · by_cases e : h = k
    · subst e; exact n3 f hf
    · rw [h2 _ (by omega), hV _ (by omega)]; exact a4 h f hh hf
  · rw [h2 _ (by omega), hV _ (by omega)]; exact a5 q i hq hi
  · rw [h2 _ (by omega), hV _ (by omega), hV _ (by omega)]; exact a6 p hp
/-! force -/
def a_force (n : Nat) (V : k_V) (v : Int32) : (Int32 ⊕ Nat) × k_V := if k_wi v (-1) (nI n - 1) then (.inl (V 4), upd V 4 v) else (.inr 0, V)
theorem k_wm {n : Nat} {v : Int32} (hn : n < 1000) : k_wi v (-1) (nI n - 1) ↔ v = -1 ∨ k_wi v 0 (nI n - 1) := by
  have h1 : (nI n - 1).toInt = (n : Int) - 1 := by
    rw [Int32.toInt_sub, k_nI (by omega)]
    show ((n : Int) - 1).bmod _ = _
    rw [Int.bmod_def]; omega
  have h2 : (-1 : Int32).toInt = -1 := rfl
  have h3 : (0 : Int32).toInt = 0 := rfl
  unfold k_wi
  rw [← Int32.toInt_inj, Int32.lt_iff_toInt_lt, Int32.lt_iff_toInt_lt, Int32.lt_iff_toInt_lt, h1, h2, h3]
  omega
theorem v_force {n : Nat} {V : k_V} {v : Int32} (hn : n < 1000) (h : k_Vok n V) : k_Vok n (a_force n V v).2 := by
  unfold a_force; split
  · rename_i hv
    refine k_Vok_f h (fun j hj => k_un (by omega)) h.2.2.2.2.2.2.2.2.2.2.2.1 h.2.2.2.1 h.2.2.2.2.1 ?_
    dsimp only; rw [k_ue]
    rcases (k_wm hn).1 hv with h1 | h1
    · exact Or.inl h1
    · obtain ⟨k, hk, h2⟩ := k_i1 rfl (by omega) h1
      exact Or.inr ⟨k, hk, h2⟩
  · exact h
theorem c_force {s : g_S} {A : k_A} {v : Int32} (hA : k_Aok A) (H : k_CI s A) : k_cop s (f81 s v) (a_force A.2.2.1.length A.2.2.2.1 v).1 (k_sV A (a_force A.2.2.1.length A.2.2.2.1 v).2) := by
  have e : f81 s v = if k_wi v (-1) (nI A.2.2.1.length - 1) then some (.inl (s 22 5), g_w s 22 5 v) else some (.inr 0, s) := by
    have hl : A.2.2.1.length < 1000 := by have := hA.2.2.1; omega
    unfold f81 f81_7 f81_10
    rw [e119, H.1.2.1]
    by_cases h1 : v = -1
    · rw [if_pos h1, if_pos ((k_wm hl).2 (Or.inl h1))]; rfl
    · by_cases h2 : k_wi v 0 (nI A.2.2.1.length - 1)
      · rw [if_neg h1, k_ift h2, if_pos ((k_wm hl).2 (Or.inr h2))]; rfl
      · rw [if_neg h1, k_iff h2, if_neg (fun h => (k_wm hl).1 h |>.elim h1 h2)]; rfl
  rw [e]
  unfold a_force; split
  · have hv := H.2.2.2.2.1
    refine ok_some ⟨congrArg Sum.inl hv.1.2.2.2.2.1, k_CI_V hA (fun x h1 _ h2 => k_wn (by omega)) H (k_CV_mk hv (k_Vb hA.2.2.2.1).1 (k_Vb hA.2.2.2.1).2.1 rfl rfl rfl (fun j hj => k_un (by omega)) (fun x h1 h2 => k_wn (by omega)) ?_), fun y hy => k_wn (by omega)⟩
    exact ⟨hv.1.1, hv.1.2.1, hv.1.2.2.1, hv.1.2.2.2.1, rfl, hv.1.2.2.2.2.2.1⟩
  · exact ok_some ⟨rfl, H, fun _ _ => rfl⟩
theorem m_force {TR : k_TR} {s : g_S} {A : k_A} {v : Int32} (hA : k_Aok A) (H : k_MI TR s A) : k_mop TR k_cI s (f167 s v) (a_force A.2.2.1.length A.2.2.2.1 v).1 (k_sV A (a_force A.2.2.1.length A.2.2.2.1 v).2) := by
  have e : f167 s v = if k_wi v (-1) (nI A.2.2.1.length - 1) then some (s 199 13, g_w (g_w s 199 0 0) 199 13 v) else some (0, g_w (g_w s 199 0 0) 199 0 1) := by
    unfold f167; rw [k_let, e135, k_0n (by omega), H.1.2.1]
    by_cases h : k_wi v (-1) (nI A.2.2.1.length - 1)
    · rw [k_ift h, if_pos h, k_bs, if_neg (by decide), f167_15, e134o k_00]; rfl
    · rw [k_iff h, if_neg h, k_bs, if_pos rfl, f167_15, e134b k_00 (by decide)]; rfl
  rw [e]
  have hv := H.2.2.2.1
  unfold a_force; split
  · refine ok_some ⟨k_MI_V hA (fun x b h1 h2 h3 h4 => ?_) H (k_MV_mk hv (fun j hj => k_un (by omega)) (fun x h1 h2 => ?_) ?_), fun y hy => ?_, fun w hw => ?_, fun e he => by cases he⟩
    · unfold k_sM at h3; unfold k_ch at h4; dsimp only; simp (disch := omega) only [k_wq]
    · dsimp only; simp (disch := omega) only [k_wn]
    · exact ⟨hv.1.1, hv.1.2.1, hv.1.2.2.1, hv.1.2.2.2.1, rfl, hv.1.2.2.2.2.2.1, hv.1.2.2.2.2.2.2.1, hv.1.2.2.2.2.2.2.2⟩
    · dsimp only; simp (disch := omega) only [k_wn]
    · cases hw; exact ⟨rfl, hv.1.2.2.2.2.1⟩
  · exact m_ref hA H rfl
/-! harm -/
def a_harm (V : k_V) (v d : Int32) : (Int32 ⊕ Nat) × k_V := if k_wi v (-1) 5 ∧ k_wi d 0 999 then (.inl (V 2), upd (upd V 2 v) 3 d) else (.inr 0, V)
theorem v_harm {n : Nat} {V : k_V} {v d : Int32} (h : k_Vok n V) : k_Vok n (a_harm V v d).2 := by
  unfold a_harm; split
  · rename_i hv
    exact k_Vok_f h (fun j hj => by simp (disch := omega) only [k_un]) h.2.2.2.2.2.2.2.2.2.2.2.1 hv.1 hv.2 h.2.2.2.2.2.1
  · exact h
theorem c_harm {s : g_S} {A : k_A} {v d : Int32} (hA : k_Aok A) (H : k_CI s A) : k_cop s (f89 s v d) (a_harm A.2.2.2.1 v d).1 (k_sV A (a_harm A.2.2.2.1 v d).2) := by
  have e : f89 s v d = if k_wi v (-1) 5 ∧ k_wi d 0 999 then some (.inl (s 22 3), g_w (g_w s 22 3 v) 22 4 d) else some (.inr 0, s) := by
    unfold f89 f89_7 f89_10
    have hm : k_wi v (-1) 5 ↔ v = -1 ∨ k_wi v 0 5 := k_wm (n := 6) (by omega)
    rw [e118]
    by_cases h0 : v = -1
    · rw [if_pos h0, e116t, k_tbl, e118]
      by_cases h2 : k_wi d 0 999
      · rw [k_ift h2, if_pos ⟨hm.2 (Or.inl h0), h2⟩]; rfl
      · rw [k_iff h2, if_neg (fun h => h2 h.2)]; rfl
    · rw [if_neg h0]
      by_cases h1 : k_wi v 0 5
      · rw [k_ift h1, k_bs, if_neg (by decide), e116t, k_tbl, e118]
        by_cases h2 : k_wi d 0 999
        · rw [k_ift h2, if_pos ⟨hm.2 (Or.inr h1), h2⟩]; rfl
        · rw [k_iff h2, if_neg (fun h => h2 h.2)]; rfl
      · rw [k_iff h1, if_neg (fun h => (hm.1 h.1).elim h0 h1)]; rfl
  rw [e]
  unfold a_harm; split
  · have hv := H.2.2.2.2.1
    refine ok_some ⟨congrArg Sum.inl hv.1.2.2.1, k_CI_V hA (fun x h1 _ h2 => ?_) H (k_CV_mk hv (k_Vb hA.2.2.2.1).1 (k_Vb hA.2.2.2.1).2.1 rfl rfl rfl (fun j hj => by simp (disch := omega) only [k_un]) (fun x h1 h2 => ?_) ?_), fun y hy => ?_⟩
    · dsimp only; simp (disch := omega) only [k_wn]
    · dsimp only; simp (disch := omega) only [k_wn]
    · exact ⟨hv.1.1, hv.1.2.1, rfl, rfl, hv.1.2.2.2.2.1, hv.1.2.2.2.2.2.1⟩
    · dsimp only; simp (disch := omega) only [k_wn]
  · exact ok_some ⟨rfl, H, fun _ _ => rfl⟩
theorem m_harm {TR : k_TR} {s : g_S} {A : k_A} {v d : Int32} (hA : k_Aok A) (H : k_MI TR s A) : k_mop TR k_cI s (f178 s v d) (a_harm A.2.2.2.1 v d).1 (k_sV A (a_harm A.2.2.2.1 v d).2) := by
  have e : f178 s v d = if k_wi v (-1) 5 ∧ k_wi d 0 999 then some (s 199 28, g_w (g_w (g_w s 199 0 0) 199 28 v) 199 29 d) else some (0, g_w (g_w s 199 0 0) 199 0 1) := by
    unfold f178 f178_14 f178_17; rw [k_let, e135]
    by_cases h : k_wi v (-1) 5
    · rw [k_ift h, k_bs, if_neg (by decide), e135]
      by_cases h2 : k_wi d 0 999
      · rw [k_ift h2, if_pos ⟨h, h2⟩, k_bs, if_neg (by decide), e134o k_00]; rfl
      · rw [k_iff h2, if_neg (fun g => h2 g.2), k_bs, if_pos rfl, e134b k_00 (by decide)]; rfl
    · rw [k_iff h, if_neg (fun g => h g.1), k_bs, if_pos rfl, e134b k_00 (by decide)]; rfl
  rw [e]
  have hv := H.2.2.2.1
  unfold a_harm; split
  · refine ok_some ⟨k_MI_V hA (fun x b h1 h2 h3 h4 => ?_) H (k_MV_mk hv (fun j hj => by simp (disch := omega) only [k_un]) (fun x h1 h2 => ?_) ?_), fun y hy => ?_, fun w hw => ?_, fun e he => by cases he⟩
    · unfold k_sM at h3; unfold k_ch at h4; dsimp only; simp (disch := omega) only [k_wq]
    · dsimp only; simp (disch := omega) only [k_wn]
    · exact ⟨hv.1.1, hv.1.2.1, rfl, rfl, hv.1.2.2.2.2.1, hv.1.2.2.2.2.2.1, hv.1.2.2.2.2.2.2.1, hv.1.2.2.2.2.2.2.2⟩
    · dsimp only; simp (disch := omega) only [k_wn]
    · cases hw; exact ⟨rfl, hv.1.2.2.1⟩
  · exact m_ref hA H rfl
/-! hand, purse, judge, fact -/
def a_hand (V : k_V) (p w : Int32) : Int32 ⊕ Nat := if k_wi p 0 (V 0 - 1) then (if k_wi w 0 5 then .inl (if w = 5 then V (15 + 12 * p.toNatClampNeg) else if p = 0 then -1 else V (10 + 12 * p.toNatClampNeg + w.toNatClampNeg)) else .inr 0) else .inr 1
theorem k_hx {n : Nat} {V : k_V} {p : Int32} (h : k_Vok n V) (hp : k_wi p 0 (V 0 - 1)) : ∃ k, k < k_hc V ∧ k < 13 ∧ p = nI k := by
  obtain ⟨k, hk, e⟩ := k_i1 (k_hcI h) (by have := (k_Vb h).1; omega) hp
  exact ⟨k, hk, by have := (k_Vb h).1; omega, e⟩
theorem k_sVs (A : k_A) : k_sV A A.2.2.2.1 = A := rfl
theorem k_02 : (2 : Int32) ≠ 0 := by decide
theorem k_01 : ¬ ((1 : Int32) = 0) := by decide
theorem e25 {s : g_S} {x i : Nat} (hi : i ≤ 5) : f25 s x (nI i) = some (s x i) := by
  match i, hi with
  | 0, _ => rfl
  | 1, _ => rfl
  | 2, _ => rfl
  | 3, _ => rfl
  | 4, _ => rfl
  | 5, _ => rfl
theorem c_hand {s : g_S} {A : k_A} {p w : Int32} (hA : k_Aok A) (H : k_CI s A) : k_cop s (f85 s p w) (a_hand A.2.2.2.1 p w) A := by
  have hv := H.2.2.2.2.1
  unfold f85 a_hand
  by_cases h1 : k_wi p 0 (A.2.2.2.1 0 - 1)
  · obtain ⟨k, hk, hk3, rfl⟩ := k_hx hA.2.2.2.1 h1
    rw [e117t (by rw [hv.1.1]; exact h1), k_tbl, e118, if_pos h1]
    by_cases h2 : k_wi w 0 5
    · obtain ⟨i, hi, rfl⟩ := k_iL 5 h2 rfl (by omega)
      rw [k_ift h2, k_bs, e116t, k_tbl, if_pos (k_hin hk3), if_pos h2, k_nat (by omega), k_nat (by omega)]
      obtain ⟨g1, g2, _⟩ := hv.2.1 k hk
      rw [e25 hi, k_bs]
      refine ok_some ⟨congrArg Sum.inl ?_, H, fun _ _ => rfl⟩
      rw [show 28 + k = 22 + 6 + k from rfl]
      have q : (nI k = 0) ↔ k = 0 := k_eq (b := 0) (by omega) (by omega)
      match i, hi with
      | 5, _ => exact g2
      | 0, _ => exact (g1 0 (by omega)).trans (by simp only [q]; rfl)
      | 1, _ => exact (g1 1 (by omega)).trans (by simp only [q]; rfl)
      | 2, _ => exact (g1 2 (by omega)).trans (by simp only [q]; rfl)
      | 3, _ => exact (g1 3 (by omega)).trans (by simp only [q]; rfl)
      | 4, _ => exact (g1 4 (by omega)).trans (by simp only [q]; rfl)
    · rw [k_iff h2, if_neg h2]
      exact ok_some ⟨rfl, H, fun _ _ => rfl⟩
  · rw [e117f (by rw [hv.1.1]; exact h1), if_neg h1]
    exact ok_some ⟨rfl, H, fun _ _ => rfl⟩
theorem k_mh {TR : k_TR} {s : g_S} {A : k_A} (H : k_MI TR s A) : g_w s 199 0 0 199 26 = A.2.2.2.1 0 := by rw [k_0n (by omega)]; exact H.2.2.2.1.1.1
/-- the model's two guards -/
theorem k_g2 {s : g_S} {c d : Prop} [Decidable c] [Decidable d] {K : Int32 → g_S → Option (Int32 × g_S)} (hs : s 199 0 = 0) :
    (if k_if c = 0 then (g_bd (f134 s 1 1) fun v1 s2 => if v1 = 0 then ((some (k_if d)).bind fun v4 => if v4 = 0 then K 1 s2 else K 0 s2) else some (0, s2)) else (g_bd (f134 s 0 1) fun v1 s2 => if v1 = 0 then ((some (k_if d)).bind fun v4 => if v4 = 0 then K 1 s2 else K 0 s2) else some (0, s2)))
      = if c then (if d then K 0 s else K 1 s) else some (0, g_w s 199 0 1) := by
  by_cases hc : c
  · rw [k_ift hc, if_neg k_01, e134o hs, k_bd, if_pos hc]
    by_cases hd : d
    · rw [k_ift hd, if_pos hd]; rfl
    · rw [k_iff hd, if_neg hd]; rfl
  · rw [k_iff hc, if_pos rfl, e134b hs k_01, k_bd, if_neg hc, if_neg k_01]
theorem m_hand {TR : k_TR} {s : g_S} {A : k_A} {p w : Int32} (hA : k_Aok A) (H : k_MI TR s A) : k_mop TR k_cB s (f174 s p w) (a_hand A.2.2.2.1 p w) A := by
  have hv := H.2.2.2.1
  have e : f174 s p w = if k_wi p 0 (A.2.2.2.1 0 - 1) then (if k_wi w 0 5 then f174_23 (g_w s 199 0 0) p w 0 else f174_23 (g_w s 199 0 0) p w 1) else some (0, g_w (g_w s 199 0 0) 199 0 1) := by
    unfold f174; rw [k_let, e173, k_mh H, k_bs]
    unfold f174_11
    simp only [e135]
    exact k_g2 (K := fun v t => f174_23 t p w v) k_00
  rw [e]
  unfold a_hand
  by_cases h1 : k_wi p 0 (A.2.2.2.1 0 - 1)
  · obtain ⟨k, hk, hk3, rfl⟩ := k_hx hA.2.2.2.1 h1
    rw [if_pos h1, if_pos h1]
    by_cases h2 : k_wi w 0 5
    · obtain ⟨i, hi, rfl⟩ := k_iL 5 h2 rfl (by omega)
      rw [if_pos h2, if_pos h2]
      unfold f174_23
      rw [e134o k_00, k_bd, if_pos rfl, k_0x (by omega), k_0x (by omega), k_nat (by omega), k_nat (by omega), if_pos (k_hin hk3)]
      have q5 : (nI i = 5) ↔ i = 5 := k_eq (b := 5) (by omega) (by omega)
      have q : (nI k = 0) ↔ k = 0 := k_eq (b := 0) (by omega) (by omega)
      simp only [q5, q]
      by_cases hi5 : i = 5
      · rw [if_pos hi5, if_pos hi5, (hv.2.2.1 k hk3).1]
        exact m_ans hA H
      · rw [if_neg hi5, if_neg hi5]
        by_cases hk0 : k = 0
        · rw [if_pos hk0, if_pos hk0]
          exact m_ans hA H
        · rw [if_neg hk0, if_neg hk0, if_pos (k_hin hk3), if_pos ((k_inI (by omega)).2 (by omega)), hv.2.1 k i hk3 (by omega)]
          exact m_ans hA H
    · rw [if_neg h2, if_neg h2]
      unfold f174_23
      rw [e134b k_00 k_02, k_bd, if_neg k_01]
      exact m_ref hA H rfl
  · rw [if_neg h1, if_neg h1]
    exact m_ref hA H rfl

/-- what follows of two guards, told in one -/
theorem m_two {TR : k_TR} {s : g_S} {A B : k_A} {p : Int32} {c : Prop} [Decidable c] {x y z : Option (Int32 × g_S)} {r : Int32 ⊕ Nat} (hA : k_Aok A) (H : k_MI TR s A)
    (hx : x = if k_wi p 0 (A.2.2.2.1 0 - 1) then (if c then y else z) else some (0, g_w (g_w s 199 0 0) 199 0 1))
    (hz : z = some (0, g_w (g_w s 199 0 0) 199 0 2)) (hy : ∀ k, k < k_hc A.2.2.2.1 → k < 13 → p = nI k → c → k_mop TR k_cB s y r B) :
    k_mop TR k_cB s x (if k_wi p 0 (A.2.2.2.1 0 - 1) then (if c then r else .inr 0) else .inr 1) (if k_wi p 0 (A.2.2.2.1 0 - 1) then (if c then B else A) else A) := by
  subst hx hz
  by_cases h1 : k_wi p 0 (A.2.2.2.1 0 - 1)
  · obtain ⟨k, hk, hk3, e⟩ := k_hx hA.2.2.2.1 h1
    simp only [if_pos h1]
    by_cases h2 : c
    · simp only [if_pos h2]; exact hy k hk hk3 e h2
    · simp only [if_neg h2]; exact m_ref hA H rfl
  · simp only [if_neg h1]; exact m_ref hA H rfl
theorem c_two {s : g_S} {A B : k_A} {p v w : Int32} {x : Option ((Int32 ⊕ Nat) × g_S)} {y : g_S → Option ((Int32 ⊕ Nat) × g_S)} {r : Int32 ⊕ Nat} (hA : k_Aok A) (H : k_CI s A)
    (hx : x = g_tb (f117 s p) fun _ s2 => (f118 s2 v w).bind fun v3 => g_tb (f116 s2 v3) fun _ s5 => y s5)
    (hy : ∀ k, k < k_hc A.2.2.2.1 → k < 13 → p = nI k → k_wi v 0 w → k_cop s (y s) r B) :
    k_cop s x (if k_wi p 0 (A.2.2.2.1 0 - 1) then (if k_wi v 0 w then r else .inr 0) else .inr 1) (if k_wi p 0 (A.2.2.2.1 0 - 1) then (if k_wi v 0 w then B else A) else A) := by
  subst hx
  have hv := H.2.2.2.2.1
  by_cases h1 : k_wi p 0 (A.2.2.2.1 0 - 1)
  · obtain ⟨k, hk, hk3, e⟩ := k_hx hA.2.2.2.1 h1
    rw [e117t (by rw [hv.1.1]; exact h1), k_tbl, e118]
    simp only [if_pos h1]
    by_cases h2 : k_wi v 0 w
    · simp only [if_pos h2]
      rw [k_ift h2, k_bs, e116t, k_tbl]
      exact hy k hk hk3 e h2
    · simp only [if_neg h2]
      rw [k_iff h2]
      exact ok_some ⟨rfl, H, fun _ _ => rfl⟩
  · rw [e117f (by rw [hv.1.1]; exact h1)]
    simp only [if_neg h1]
    exact ok_some ⟨rfl, H, fun _ _ => rfl⟩
def a_purse (V : k_V) (p v : Int32) : (Int32 ⊕ Nat) × k_V := (.inl (V (15 + 12 * p.toNatClampNeg)), upd V (15 + 12 * p.toNatClampNeg) v)
def a_two (A : k_A) (p : Int32) (c : Prop) [Decidable c] (r : (Int32 ⊕ Nat) × k_V) : (Int32 ⊕ Nat) × k_A :=
  (if k_wi p 0 (A.2.2.2.1 0 - 1) then (if c then r.1 else .inr 0) else .inr 1, if k_wi p 0 (A.2.2.2.1 0 - 1) then (if c then k_sV A r.2 else A) else A)
theorem v_two {A : k_A} {p : Int32} {c : Prop} [Decidable c] {r : (Int32 ⊕ Nat) × k_V} (hA : k_Aok A) (h : ∀ k, k < k_hc A.2.2.2.1 → k < 13 → p = nI k → c → k_Vok A.2.2.1.length r.2) : k_Aok (a_two A p c r).2 := by
  unfold a_two
  by_cases h1 : k_wi p 0 (A.2.2.2.1 0 - 1)
  · obtain ⟨k, hk, hk3, e⟩ := k_hx hA.2.2.2.1 h1
    simp only [if_pos h1]
    by_cases h2 : c
    · simp only [if_pos h2]; exact k_Aok_V hA (h k hk hk3 e h2)
    · simp only [if_neg h2]; exact hA
  · simp only [if_neg h1]; exact hA
theorem v_purse {A : k_A} {p v : Int32} (hA : k_Aok A) : k_Aok (a_two A p (k_wi v 0 9999) (a_purse A.2.2.2.1 p v)).2 := by
  refine v_two hA (fun k hk hk3 e h2 => ?_)
  subst e
  unfold a_purse
  rw [k_nat (by omega)]
  refine k_Vok_h hA.2.2.2.1 hk3 (fun j hj => by dsimp only; rw [k_un (by omega)]) (fun h1 _ => ?_) (fun f hf => ?_) (fun _ => ?_)
  · dsimp only; simp (disch := omega) only [k_un]; exact hA.2.2.2.1.2.2.2.2.2.2.2.1 k h1 hk
  · dsimp only; simp (disch := omega) only [k_un]; exact hA.2.2.2.1.2.2.2.2.2.2.2.2.1 k f hk3 hf
  · dsimp only; rw [k_ue]; exact h2
theorem c_purse {s : g_S} {A : k_A} {p v : Int32} (hA : k_Aok A) (H : k_CI s A) : k_cop s (f87 s p v) (a_two A p (k_wi v 0 9999) (a_purse A.2.2.2.1 p v)).1 (a_two A p (k_wi v 0 9999) (a_purse A.2.2.2.1 p v)).2 := by
  have hv := H.2.2.2.2.1
  refine c_two hA H (y := fun s5 => if m_in p 13 = true then g_let (g_w s5 (28 + p.toNatClampNeg) 5 v) fun s7 => some ((.inl (s5 (28 + p.toNatClampNeg) 5), s7)) else none) (by unfold f87; rfl) (fun k hk hk3 e h2 => ?_)
  subst e
  obtain ⟨g1, g2, g3, g4⟩ := hv.2.1 k hk
  dsimp only [a_purse]
  rw [if_pos (k_hin hk3), k_nat (by omega)]
  refine ok_some ⟨congrArg Sum.inl g2, k_CI_V hA (fun x h1 _ h2 => k_wn (by omega)) H ?_, fun y hy => k_wn (by omega)⟩
  refine k_CV_hand hv (k_Vb hA.2.2.2.1).1 (k_Vb hA.2.2.2.1).2.1 hk (fun j hj => k_un (by omega)) (fun x h1 h2 h3 => k_wn (by omega)) ?_
  show k_CH (g_w s (28 + k) 5 v) (28 + k) k _
  rw [show 22 + 6 + k = 28 + k from rfl] at g1 g3 g4
  obtain ⟨m, hm, g5, g6⟩ := g4
  refine ⟨fun i hi => ?_, ?_, ?_, m, hm, ?_, fun f hf => ?_⟩ <;> simp (disch := omega) only [k_wq, k_wv, k_un, k_ue]
  · exact g1 i hi
  · exact g3
  · exact g5
  · exact g6 f hf
theorem m_purse {TR : k_TR} {s : g_S} {A : k_A} {p v : Int32} (hA : k_Aok A) (H : k_MI TR s A) : k_mop TR k_cB s (f176 s p v) (a_two A p (k_wi v 0 9999) (a_purse A.2.2.2.1 p v)).1 (a_two A p (k_wi v 0 9999) (a_purse A.2.2.2.1 p v)).2 := by
  have hv := H.2.2.2.1
  refine m_two hA H (y := f176_23 (g_w s 199 0 0) p v 0) (z := f176_23 (g_w s 199 0 0) p v 1) ?_ ?_ (fun k hk hk3 e h2 => ?_)
  · unfold f176; rw [k_let, e173, k_mh H, k_bs]
    unfold f176_11
    simp only [e135]
    exact k_g2 (K := fun u t => f176_23 t p v u) k_00
  · unfold f176_23; rw [e134b k_00 k_02]; rfl
  subst e
  dsimp only [a_purse]
  unfold f176_23
  rw [e134o k_00, k_bd, if_pos rfl, if_pos (k_hin hk3), k_let, k_nat (by omega)]
  refine ok_some ⟨k_MI_V hA (fun x b h1 h2 h3 h4 => ?_) H (k_MV_hand hv hk3 (fun j hj => k_un (by omega)) ?_ ?_ ?_ ?_ ?_ ?_), fun y hy => ?_, fun w hw => ?_, fun e he => by cases he⟩
  · unfold k_sM at h3; unfold k_ch at h4; dsimp only; simp (disch := omega) only [k_wq]
  · intro b _ _ _ _ _ _; dsimp only; simp (disch := omega) only [k_wq]
  · intro x hx; dsimp only; simp (disch := omega) only [k_wn]
  · intro h hh hk; dsimp only; simp (disch := omega) only [k_wq]; exact ⟨trivial, trivial⟩
  · intro i hi; dsimp only; simp (disch := omega) only [k_wq, k_un]; exact hv.2.1 k i hk3 hi
  · dsimp only; simp (disch := omega) only [k_wq, k_wv, k_un, k_ue]; exact ⟨trivial, (hv.2.2.1 k hk3).2⟩
  · intro f hf; dsimp only; simp (disch := omega) only [k_wq, k_un]; exact hv.2.2.2.1 k f hk3 hf
  · dsimp only; simp (disch := omega) only [k_wn]
  · cases hw; refine ⟨?_, ?_⟩
    · dsimp only; simp (disch := omega) only [k_wq, k_wv]
    · dsimp only; simp (disch := omega) only [k_wq]; exact (hv.2.2.1 k hk3).1
/-! judge, fact -/
def a_judge (V : k_V) (p v : Int32) : (Int32 ⊕ Nat) × k_V := (.inl (V (16 + 12 * p.toNatClampNeg)), upd V (16 + 12 * p.toNatClampNeg) v)
theorem v_judge {A : k_A} {p v : Int32} (hA : k_Aok A) : k_Aok (a_two A p (k_wi v 0 9999) (a_judge A.2.2.2.1 p v)).2 := by
  refine v_two hA (fun k hk hk3 e h2 => ?_)
  subst e
  unfold a_judge
  rw [k_nat (by omega)]
  refine k_Vok_h hA.2.2.2.1 hk3 (fun j hj => by dsimp only; rw [k_un (by omega)]) (fun h1 _ => ?_) (fun f hf => ?_) (fun _ => ?_)
  · dsimp only; simp (disch := omega) only [k_un]; exact hA.2.2.2.1.2.2.2.2.2.2.2.1 k h1 hk
  · dsimp only; simp (disch := omega) only [k_un]; exact hA.2.2.2.1.2.2.2.2.2.2.2.2.1 k f hk3 hf
  · dsimp only; rw [k_un (by omega)]; exact hA.2.2.2.1.2.2.2.2.2.2.2.2.2.2.2.2 k hk
theorem c_judge {s : g_S} {A : k_A} {p v : Int32} (hA : k_Aok A) (H : k_CI s A) : k_cop s (f109 s p v) (a_two A p (k_wi v 0 9999) (a_judge A.2.2.2.1 p v)).1 (a_two A p (k_wi v 0 9999) (a_judge A.2.2.2.1 p v)).2 := by
  have hv := H.2.2.2.2.1
  refine c_two hA H (y := fun s5 => if m_in p 13 = true then g_let (g_w s5 (28 + p.toNatClampNeg) 6 v) fun s7 => some ((.inl (s5 (28 + p.toNatClampNeg) 6), s7)) else none) (by unfold f109; rfl) (fun k hk hk3 e h2 => ?_)
  subst e
  obtain ⟨g1, g2, g3, g4⟩ := hv.2.1 k hk
  dsimp only [a_judge]
  rw [if_pos (k_hin hk3), k_nat (by omega)]
  refine ok_some ⟨congrArg Sum.inl g3, k_CI_V hA (fun x h1 _ h2 => k_wn (by omega)) H ?_, fun y hy => k_wn (by omega)⟩
  refine k_CV_hand hv (k_Vb hA.2.2.2.1).1 (k_Vb hA.2.2.2.1).2.1 hk (fun j hj => k_un (by omega)) (fun x h1 h2 h3 => k_wn (by omega)) ?_
  show k_CH (g_w s (28 + k) 6 v) (28 + k) k _
  rw [show 22 + 6 + k = 28 + k from rfl] at g1 g2 g4
  obtain ⟨m, hm, g5, g6⟩ := g4
  refine ⟨fun i hi => ?_, ?_, ?_, m, hm, ?_, fun f hf => ?_⟩ <;> simp (disch := omega) only [k_wq, k_wv, k_un, k_ue]
  · exact g1 i hi
  · exact g2
  · exact g5
  · exact g6 f hf
theorem m_judge {TR : k_TR} {s : g_S} {A : k_A} {p v : Int32} (hA : k_Aok A) (H : k_MI TR s A) : k_mop TR k_cB s (f212 s p v) (a_two A p (k_wi v 0 9999) (a_judge A.2.2.2.1 p v)).1 (a_two A p (k_wi v 0 9999) (a_judge A.2.2.2.1 p v)).2 := by
  have hv := H.2.2.2.1
  refine m_two hA H (y := f212_23 (g_w s 199 0 0) p v 0) (z := f212_23 (g_w s 199 0 0) p v 1) ?_ ?_ (fun k hk hk3 e h2 => ?_)
  · unfold f212; rw [k_let, e173, k_mh H, k_bs]
    unfold f212_11
    simp only [e135]
    exact k_g2 (K := fun u t => f212_23 t p v u) k_00
  · unfold f212_23; rw [e134b k_00 k_02]; rfl
  subst e
  dsimp only [a_judge]
  unfold f212_23
  rw [e134o k_00, k_bd, if_pos rfl, if_pos (k_hin hk3), k_let, k_nat (by omega)]
  refine ok_some ⟨k_MI_V hA (fun x b h1 h2 h3 h4 => ?_) H (k_MV_hand hv hk3 (fun j hj => k_un (by omega)) ?_ ?_ ?_ ?_ ?_ ?_), fun y hy => ?_, fun w hw => ?_, fun e he => by cases he⟩
  · unfold k_sM at h3; unfold k_ch at h4; dsimp only; simp (disch := omega) only [k_wq]
  · intro b _ _ _ _ _ _; dsimp only; simp (disch := omega) only [k_wq]
  · intro x hx; dsimp only; simp (disch := omega) only [k_wn]
  · intro h hh hk; dsimp only; simp (disch := omega) only [k_wq]; exact ⟨trivial, trivial⟩
  · intro i hi; dsimp only; simp (disch := omega) only [k_wq, k_un]; exact hv.2.1 k i hk3 hi
  · dsimp only; simp (disch := omega) only [k_wq, k_wv, k_un, k_ue]; exact ⟨(hv.2.2.1 k hk3).1, trivial⟩
  · intro f hf; dsimp only; simp (disch := omega) only [k_wq, k_un]; exact hv.2.2.2.1 k f hk3 hf
  · dsimp only; simp (disch := omega) only [k_wn]
  · cases hw; refine ⟨?_, ?_⟩
    · dsimp only; simp (disch := omega) only [k_wq, k_wv]
    · dsimp only; simp (disch := omega) only [k_wq]; exact (hv.2.2.1 k hk3).2

theorem k_bit0 : ∀ m, m < 16 → ∀ f, f < 4 → (if (((nI m) >>> (nI f &&& 31)) &&& 1) = 1 then some (1 : Int32) else some 0) = some (q_b (m.testBit f)) := by decide +kernel
def k_mb (m f : Nat) (b : Bool) : Nat := if b = true then m ||| (1 <<< f) else m &&& (15 ^^^ (1 <<< f))
theorem k_bit1 : ∀ m, m < 16 → ∀ f, f < 4 → nI m ||| ((1 : Int32) <<< (nI f &&& 31)) = nI (k_mb m f true) := by decide +kernel
theorem k_bit2 : ∀ m, m < 16 → ∀ f, f < 4 → nI m &&& (((1 : Int32) <<< (nI f &&& 31)) ^^^ (-1)) = nI (k_mb m f false) := by decide +kernel
theorem k_bit3 : ∀ m, m < 16 → ∀ f, f < 4 → ∀ b, k_mb m f b < 16 ∧ ∀ g, g < 4 → (k_mb m f b).testBit g = if g = f then b else m.testBit g := by decide +kernel
theorem k_isb {b : Int32} (h : m_isb b = true) : b = 0 ∨ b = 1 := by
  unfold m_isb at h
  rw [Bool.or_eq_true] at h
  rcases h with h | h
  · exact Or.inl (eq_of_beq h)
  · exact Or.inr (eq_of_beq h)
theorem k_isq {b : Bool} : m_isb (q_b b) = true := by cases b <;> rfl
theorem k_qb {b : Int32} (h : m_isb b = true) : ∃ c : Bool, b = q_b c := by
  rcases k_isb h with rfl | rfl
  · exact ⟨false, rfl⟩
  · exact ⟨true, rfl⟩
/-- a fact told to a hand of the class -/
theorem k_tell {s : g_S} {x h f : Nat} {V : k_V} {b : Int32} (H : k_CH s x h V) (hf : f < 4) (hb : m_isb b = true) :
    ∃ m, m < 16 ∧ f27 s x (nI f) b = some (g_w s x 7 (nI m)) ∧ k_CH (g_w s x 7 (nI m)) x h (upd V (17 + 12 * h + f) b) ∧ f26 s x (nI f) = some (V (17 + 12 * h + f)) := by
  obtain ⟨g1, g2, g3, m, hm, g4, g5⟩ := H
  obtain ⟨c, rfl⟩ := k_qb hb
  obtain ⟨q1, q2⟩ := k_bit3 m hm f hf c
  refine ⟨k_mb m f c, q1, ?_, ⟨fun i hi => ?_, ?_, ?_, k_mb m f c, q1, ?_, fun g hg => ?_⟩, ?_⟩
  · unfold f27 f27_18
    rw [g4]
    cases c with
    | false => rw [if_pos (show q_b false = 0 from rfl), k_bit2 m hm f hf]; rfl
    | true => rw [if_neg (by decide), k_bit1 m hm f hf]; rfl
  · rw [k_wq (by omega), k_un (by omega)]; exact g1 i hi
  · rw [k_wq (by omega), k_un (by omega)]; exact g2
  · rw [k_wq (by omega), k_un (by omega)]; exact g3
  · rw [k_wv]
  · rw [q2 g hg]
    by_cases e : g = f
    · subst e; rw [k_ue, if_pos rfl]
    · rw [k_un (by omega), if_neg e]; exact g5 g hg
  · unfold f26
    rw [g4, k_bit0 m hm f hf, g5 f hf]
theorem k_Vok_b {n k f : Nat} {V : k_V} {b : Int32} (H : k_Vok n V) (hk : k < 13) (hf : f < 4) (hb : m_isb b = true) : k_Vok n (upd V (17 + 12 * k + f) b) := by
  refine k_Vok_h H hk (fun j hj => k_un (by omega)) (fun h1 h2 => ?_) (fun g hg => ?_) (fun h2 => ?_)
  · simp (disch := omega) only [k_un]; exact H.2.2.2.2.2.2.2.1 k h1 h2
  · by_cases e : g = f
    · subst e; rw [k_ue]; exact hb
    · rw [k_un (by omega)]; exact H.2.2.2.2.2.2.2.2.1 k g hk hg
  · simp (disch := omega) only [k_un]; exact H.2.2.2.2.2.2.2.2.2.2.2.2 k h2
def a_fact (V : k_V) (p f b : Int32) : (Int32 ⊕ Nat) × k_V := (.inl (V (17 + 12 * p.toNatClampNeg + f.toNatClampNeg)), upd V (17 + 12 * p.toNatClampNeg + f.toNatClampNeg) b)
theorem v_fact {A : k_A} {p f b : Int32} (hA : k_Aok A) (hb : m_isb b = true) : k_Aok (a_two A p (k_wi f 0 3) (a_fact A.2.2.2.1 p f b)).2 := by
  refine v_two hA (fun k hk hk3 e h2 => ?_)
  obtain ⟨i, hi, rfl⟩ := k_iL 3 h2 rfl (by omega)
  subst e
  unfold a_fact
  rw [k_nat (by omega), k_nat (by omega)]
  exact k_Vok_b hA.2.2.2.1 hk3 (by omega) hb
theorem c_fact {s : g_S} {A : k_A} {p f b : Int32} (hA : k_Aok A) (hb : m_isb b = true) (H : k_CI s A) : k_cop s (f88 s p f b) (a_two A p (k_wi f 0 3) (a_fact A.2.2.2.1 p f b)).1 (a_two A p (k_wi f 0 3) (a_fact A.2.2.2.1 p f b)).2 := by
  have hv := H.2.2.2.2.1
  refine c_two hA H (y := fun s5 => if m_in p 13 = true then (f26 s5 (28 + p.toNatClampNeg) f).bind fun v7 => (f27 s5 (28 + p.toNatClampNeg) f b).bind fun s9 => if m_isb v7 = true then some ((.inl v7, s9)) else none else none) (by unfold f88; rfl) (fun k hk hk3 e h2 => ?_)
  obtain ⟨i, hi, rfl⟩ := k_iL 3 h2 rfl (by omega)
  subst e
  have hc := hv.2.1 k hk
  rw [show 22 + 6 + k = 28 + k from rfl] at hc
  obtain ⟨m, hm, q1, q2, q3⟩ := k_tell hc (f := i) (by omega) hb
  dsimp only [a_fact]
  rw [if_pos (k_hin hk3), k_nat (by omega), k_nat (by omega), q3, k_bs, q1, k_bs, if_pos (hA.2.2.2.1.2.2.2.2.2.2.2.2.1 k i hk3 (by omega))]
  refine ok_some ⟨rfl, k_CI_V hA (fun x h1 _ h2 => k_wn (by omega)) H ?_, fun y hy => k_wn (by omega)⟩
  exact k_CV_hand hv (k_Vb hA.2.2.2.1).1 (k_Vb hA.2.2.2.1).2.1 hk (fun j hj => k_un (by omega)) (fun x h1 h2 h3 => k_wn (by omega)) q2
theorem m_fact {TR : k_TR} {s : g_S} {A : k_A} {p f b : Int32} (hA : k_Aok A) (hb : m_isb b = true) (H : k_MI TR s A) : k_mop TR k_cB s (f177 s p f b) (a_two A p (k_wi f 0 3) (a_fact A.2.2.2.1 p f b)).1 (a_two A p (k_wi f 0 3) (a_fact A.2.2.2.1 p f b)).2 := by
  have hv := H.2.2.2.1
  refine m_two hA H (y := f177_23 (g_w s 199 0 0) p f b 0) (z := f177_23 (g_w s 199 0 0) p f b 1) ?_ ?_ (fun k hk hk3 e h2 => ?_)
  · unfold f177; rw [k_let, e173, k_mh H, k_bs]
    unfold f177_11
    simp only [e135]
    exact k_g2 (K := fun u t => f177_23 t p f b u) k_00
  · unfold f177_23; rw [e134b k_00 k_02]; rfl
  obtain ⟨i, hi, rfl⟩ := k_iL 3 h2 rfl (by omega)
  subst e
  dsimp only [a_fact]
  unfold f177_23
  have hq : g_w s 199 0 0 (225 + k) i = A.2.2.2.1 (17 + 12 * k + i) := by rw [k_wq (by omega)]; exact hv.2.2.2.1 k i hk3 (by omega)
  rw [e134o k_00, k_bd, if_pos rfl, if_pos (k_hin hk3), if_pos ((k_inI (by omega)).2 (by omega)), if_pos hb, k_let, k_nat (by omega), k_nat (by omega), hq, if_pos (hA.2.2.2.1.2.2.2.2.2.2.2.2.1 k i hk3 (by omega))]
  refine ok_some ⟨k_MI_V hA (fun x b h1 h2 h3 h4 => ?_) H (k_MV_hand hv hk3 (fun j hj => k_un (by omega)) ?_ ?_ ?_ ?_ ?_ ?_), fun y hy => ?_, fun w hw => ?_, fun e he => by cases he⟩
  · unfold k_sM at h3; unfold k_ch at h4; dsimp only; simp (disch := omega) only [k_wq]
  · intro b _ _ _ _ _ _; dsimp only; simp (disch := omega) only [k_wq]
  · intro x hx; dsimp only; simp (disch := omega) only [k_wn]
  · intro h hh hk; dsimp only; simp (disch := omega) only [k_wq]; exact ⟨trivial, trivial⟩
  · intro i hi; dsimp only; simp (disch := omega) only [k_wq, k_un]; exact hv.2.1 k i hk3 hi
  · dsimp only; simp (disch := omega) only [k_wq, k_wv, k_un, k_ue]; exact hv.2.2.1 k hk3
  · intro g hg; dsimp only
    by_cases e : g = i
    · subst e; rw [k_wv, k_ue]
    · simp (disch := omega) only [k_wq, k_un]; exact hv.2.2.2.1 k g hk3 hg
  · dsimp only; simp (disch := omega) only [k_wn]
  · cases hw; refine ⟨?_, rfl⟩
    dsimp only; simp (disch := omega) only [k_wq, k_wv]
