/-! Phase 2: tools. -/
theorem w_k_wn {s : g_S} {x b y : Nat} {v : Int32} (h : y ≠ x) : g_w s x b v y = s y := if_neg h
theorem w_k_we {s : g_S} {x b : Nat} {v : Int32} : g_w s x b v x = upd (s x) b v := if_pos rfl
theorem w_k_wan {s : g_S} {x y : Nat} {f : Nat → Int32} (h : y ≠ x) : g_wa s x f y = s y := if_neg h
theorem w_k_wae {s : g_S} {x : Nat} {f : Nat → Int32} : g_wa s x f x = f := if_pos rfl
theorem w_k_un {f : Nat → Int32} {k j : Nat} {v : Int32} (h : j ≠ k) : upd f k v j = f j := if_neg h
theorem w_k_ue {f : Nat → Int32} {k : Nat} {v : Int32} : upd f k v k = v := if_pos rfl
theorem w_k_nI {k : Nat} (h : k < 2147483648) : (nI k).toInt = k := Int32.toInt_ofNat_of_lt h
theorem w_k_nat {k : Nat} (h : k < 2147483648) : (nI k).toNatClampNeg = k := by rw [← Int32.toNat_toInt, w_k_nI h]; rfl
theorem w_k_lt {a b : Nat} (ha : a < 2147483648) (hb : b < 2147483648) : (nI a < nI b) ↔ a < b := by rw [Int32.lt_iff_toInt_lt, w_k_nI ha, w_k_nI hb]; omega
theorem w_k_eq {a b : Nat} (ha : a < 2147483648) (hb : b < 2147483648) : (nI a = nI b) ↔ a = b := by rw [← Int32.toInt_inj, w_k_nI ha, w_k_nI hb]; omega
theorem w_k_add (a b : Nat) : nI a + nI b = nI (a + b) := (Int32.ofNat_add a b).symm
theorem w_k_s1 (a : Nat) : nI a + 1 = nI (a + 1) := w_k_add a 1
theorem w_k_p1 (a : Nat) : nI (a + 1) + (-1) = nI a := by rw [← w_k_s1]; grind
theorem w_k_m1 (a : Nat) : nI (a + 1) - 1 = nI a := by rw [← w_k_s1]; grind
theorem w_k_in {j : Int32} {n : Nat} : m_in j n = true ↔ 0 ≤ j.toInt ∧ j.toInt < n := by
  unfold m_in
  rw [decide_eq_true_iff, Int32.lt_iff_toInt_lt, ← Int32.toNat_toInt]
  show ¬ (j.toInt < (0 : Int) ∨ _) ↔ _
  omega
theorem w_k_inI {k n : Nat} (h : k < 2147483648) : m_in (nI k) n = true ↔ k < n := by rw [w_k_in, w_k_nI h]; omega
theorem w_k_b0 : m_isb 0 = true := rfl
theorem w_k_b1 : m_isb 1 = true := rfl
theorem w_k_of {x : Int32} (h : ¬ x < 0) : ∃ k : Nat, k < 2147483648 ∧ x = nI k := by
  refine ⟨x.toInt.toNat, ?_, ?_⟩
  · have := Int32.toInt_le x
    have h2 : (Int32.maxValue).toInt = 2147483647 := rfl
    omega
  · have := Int32.toInt_le x
    have h2 : (Int32.maxValue).toInt = 2147483647 := rfl
    have h3 : ¬ x.toInt < (0 : Int32).toInt := fun e => h (Int32.lt_iff_toInt_lt.2 e)
    have h4 : (0 : Int32).toInt = 0 := rfl
    rw [← Int32.toInt_inj, w_k_nI (by omega)]
    omega
def w_OK {A : Type} (x : Option A) (Q : A → Prop) : Prop := ∃ r, x = some r ∧ Q r
theorem w_ok_some {A : Type} {a : A} {Q : A → Prop} (h : Q a) : w_OK (some a) Q := ⟨a, rfl, h⟩
theorem w_ok_mono {A : Type} {x : Option A} {P Q : A → Prop} (h : w_OK x P) (k : ∀ a, P a → Q a) : w_OK x Q := by
  obtain ⟨r, e, h⟩ := h
  exact ⟨r, e, k r h⟩
theorem w_ok_eq {A : Type} {x : Option A} {a : A} {Q : A → Prop} (h : x = some a) (k : Q a) : w_OK x Q := ⟨a, h, k⟩
theorem w_ok_let {B : Type} {e : g_S} {k : g_S → Option B} {Q : B → Prop} (h : w_OK (k e) Q) : w_OK (g_let e k) Q := h
theorem w_ok_bind {A B : Type} {x : Option A} {k : A → Option B} {P : A → Prop} {Q : B → Prop} (h : w_OK x P) (g : ∀ a, P a → w_OK (k a) Q) : w_OK (x.bind k) Q := by
  obtain ⟨r, rfl, h⟩ := h
  exact g r h
theorem w_ok_bd {A B : Type} {x : Option (A × g_S)} {k : A → g_S → Option B} {P : A × g_S → Prop} {Q : B → Prop} (h : w_OK x P) (g : ∀ a s, P (a, s) → w_OK (k a s) Q) : w_OK (g_bd x k) Q := by
  obtain ⟨⟨a, s⟩, rfl, h⟩ := h
  exact g a s h
theorem w_ok_map {A B : Type} {x : Option A} {k : A → B} {Q : B → Prop} (h : w_OK x (fun a => Q (k a))) : w_OK (x.map k) Q := by
  obtain ⟨r, rfl, h⟩ := h
  exact ⟨_, rfl, h⟩
theorem w_ok_if {A : Type} {c : Prop} [Decidable c] {a b : Option A} {Q : A → Prop} (h : c → w_OK a Q) (g : ¬ c → w_OK b Q) : w_OK (if c then a else b) Q := by
  by_cases hc : c
  · rw [if_pos hc]; exact h hc
  · rw [if_neg hc]; exact g hc
theorem w_ok_gd {A : Type} {c : Prop} [Decidable c] {a : Option A} {Q : A → Prop} (hc : c) (h : w_OK a Q) : w_OK (if c then a else none) Q := by rw [if_pos hc]; exact h
theorem w_k_bd {A B : Type} {a : A} {s : g_S} {k : A → g_S → Option B} : g_bd (some (a, s)) k = k a s := rfl
theorem w_k_tbl {A B : Type} {a : A} {s : g_S} {k : A → g_S → Option ((B ⊕ Nat) × g_S)} : g_tb (some (.inl a, s)) k = k a s := rfl
theorem w_k_tbr {A B : Type} {e : Nat} {s : g_S} {k : A → g_S → Option ((B ⊕ Nat) × g_S)} : g_tb (some (.inr e, s)) k = some (.inr e, s) := rfl
theorem w_k_bs {A B : Type} {a : A} {k : A → Option B} : (some a).bind k = k a := rfl
theorem w_k_let {B : Type} {e : g_S} {k : g_S → Option B} : g_let e k = k e := rfl
abbrev w_k_wi (x lo hi : Int32) : Prop := ¬ x < lo ∧ ¬ hi < x
/-! What both sides hold: laws as clauses, the chain as one row of ints. -/
abbrev w_q_C : Type := Int32 × (Int32 × (Int32 × List Int32))
abbrev w_q_L : Type := List w_q_C × Int32
def w_q_bit (x e : Int32) : Bool := decide (((x >>> (e &&& 31)) &&& 1) = 1)
def w_q_is (c : w_q_C) (t k : Int32) : Bool := decide (c.1 = t) && w_q_bit c.2.1 k
def w_q_join (x a b : Int32) : Int32 :=
  if x = 43 then a + b else if x = 45 then a - b else if x = 42 then a * b else if x = 47 then (if b = 0 then 0 else a / b)
  else if x = 60 then (if a < b then 1 else 0) else if x = 62 then (if b < a then 1 else 0) else if x = 61 then (if a = b then 1 else 0)
  else if x = 108 then g_min a b else if x = 109 then g_max a b else if x = 38 then a &&& b else a ||| b
def w_q_step (nm : Nat → Int32) (st : List Int32) (x : Int32) : List Int32 :=
  if x < 8 then (if st.length < 24 then nm x.toNatClampNeg :: st else st)
  else if x < 256 then
    (if x = 33 then (match st with | [] => [] | a :: r => (1 - a) :: r)
     else (match st with | b :: a :: r => w_q_join x a b :: r | r => r))
  else (if st.length < 24 then (x - 256) :: st else st)
def w_q_run (nm : Nat → Int32) (xs : List Int32) : List Int32 := xs.foldl (w_q_step nm) []
def w_q_top (st : List Int32) : Int32 := match st with | [] => 0 | a :: _ => a
def w_q_work (nm : Nat → Int32) (xs : List Int32) : Int32 := w_q_top (w_q_run nm xs)
def w_q_hold1 (c : w_q_C) (t k h : Int32) (nm : Nat → Int32) : Bool := w_q_is c t k && (w_q_bit c.2.2.1 h && (c.2.2.2.isEmpty || !decide (w_q_work nm c.2.2.2 = 0)))
def w_q_holds (L : w_q_L) (t k h : Int32) (nm : Nat → Int32) : Bool := L.1.any fun c => w_q_hold1 c t k h nm
def w_q_clip (x : Int32) : Int32 := g_max 0 (g_min 9999 x)
def w_q_owes (cs : List w_q_C) (k : Int32) (nm : Nat → Int32) : Int32 := match cs with
  | [] => nm 6
  | c :: r => if w_q_is c 2 k = true then w_q_clip (w_q_work nm c.2.2.2) else w_q_owes r k nm
def w_q_owed (L : w_q_L) (k : Int32) (nm : Nat → Int32) : Int32 := w_q_owes L.1.reverse k nm
def w_q_lets (L : w_q_L) (k t : Int32) : Bool := L.1.any fun c => w_q_is c 3 k && w_q_bit c.2.2.1 t
def w_q_twice (L : w_q_L) (k : Int32) : Bool := L.1.any fun c => w_q_is c 4 k
def w_q_no : w_q_L := ([], -1)
def w_q_b (b : Bool) : Int32 := if b = true then 1 else 0
def w_k_LR (s : g_S) (l : Nat) (L : w_q_L) : Prop :=
  s l 0 = L.2 ∧ s l 1 = nI L.1.length ∧ L.1.length ≤ 24 ∧
  ∀ i c, L.1[i]? = some c → s (l + 1) i = c.1 ∧ s (l + 2) i = c.2.1 ∧ s (l + 3) i = c.2.2.1 ∧
    ∃ a : Nat, a + c.2.2.2.length ≤ 500 ∧ s (l + 4) i = nI a ∧ s (l + 5) i = nI (a + c.2.2.2.length) ∧
      ∀ j x, c.2.2.2[j]? = some x → ¬ x < 0 ∧ s (l + 6) (a + j) = x
abbrev w_k_V : Type := Nat → Int32
def w_k_hc (V : w_k_V) : Nat := (V 0).toNatClampNeg
def w_k_qc (V : w_k_V) : Nat := (V 5).toNatClampNeg
def w_k_pc (V : w_k_V) : Nat := (V 6).toNatClampNeg
def w_k_sum (V : w_k_V) : Nat → Int32
  | 0 => 0
  | p + 1 => w_k_sum V p + V (201 + 2 * p)
def w_k_Vok (n : Nat) (V : w_k_V) : Prop :=
  (V 0 = nI (w_k_hc V) ∧ 1 ≤ w_k_hc V ∧ w_k_hc V ≤ 13) ∧ (V 5 = nI (w_k_qc V) ∧ w_k_qc V ≤ 8) ∧ (V 6 = nI (w_k_pc V) ∧ w_k_pc V ≤ 20) ∧
  w_k_wi (V 2) (-1) 5 ∧ w_k_wi (V 3) 0 999 ∧ (V 4 = -1 ∨ ∃ l, l < n ∧ V 4 = nI l) ∧ V 7 = w_k_sum V (w_k_pc V) ∧
  (∀ h, 1 ≤ h → h < w_k_hc V → w_k_wi (V (10 + 12 * h)) 0 5 ∧ w_k_wi (V (11 + 12 * h)) 0 999 ∧ w_k_wi (V (13 + 12 * h)) 0 3) ∧
  (∀ h f, h < 13 → f < 4 → m_isb (V (17 + 12 * h + f)) = true) ∧
  (∀ q, q < w_k_qc V → w_k_wi (V (170 + 3 * q)) 0 5 ∧ (V (170 + 3 * q) < 4 → w_k_wi (V (171 + 3 * q)) 0 (V 0 - 1)) ∧
    (V (170 + 3 * q) = 4 → w_k_wi (V (172 + 3 * q)) 0 5) ∧ (V (170 + 3 * q) = 5 → w_k_wi (V (172 + 3 * q)) 0 999)) ∧
  (∀ p, p < w_k_pc V → w_k_wi (V (201 + 2 * p)) 0 999) ∧ w_k_wi (V 1) 0 9999 ∧ (∀ h, h < w_k_hc V → w_k_wi (V (15 + 12 * h)) 0 9999)
def w_k_CH (s : g_S) (x h : Nat) (V : w_k_V) : Prop :=
  (∀ i, i < 5 → s x i = if h = 0 then -1 else V (10 + 12 * h + i)) ∧ s x 5 = V (15 + 12 * h) ∧ s x 6 = V (16 + 12 * h) ∧
  ∃ m, m < 16 ∧ s x 7 = nI m ∧ ∀ f, f < 4 → V (17 + 12 * h + f) = w_q_b (m.testBit f)
def w_k_CV (s : g_S) (c : Nat) (V : w_k_V) : Prop :=
  (s c 1 = V 0 ∧ s c 2 = V 1 ∧ s c 3 = V 2 ∧ s c 4 = V 3 ∧ s c 5 = V 4 ∧ s c 7 = V 5 ∧ s (c + 3) 0 = V 6) ∧
  (∀ h, h < w_k_hc V → w_k_CH s (c + 6 + h) h V) ∧
  (∀ q i, q < w_k_qc V → i < 3 → s (c + 19 + q) i = V (170 + 3 * q + i)) ∧
  (∀ p, p < w_k_pc V → s (c + 4) p = V (200 + 2 * p) ∧ s (c + 5) p = V (201 + 2 * p))
def w_k_MV (s : g_S) (V : w_k_V) : Prop :=
  (s 199 26 = V 0 ∧ s 199 27 = V 1 ∧ s 199 28 = V 2 ∧ s 199 29 = V 3 ∧ s 199 13 = V 4 ∧ s 199 43 = V 5 ∧ s 199 49 = V 6 ∧ s 199 50 = V 7) ∧
  (∀ h i, h < 13 → i < 5 → s (209 + h) i = V (10 + 12 * h + i)) ∧
  (∀ h, h < 13 → s 222 h = V (15 + 12 * h) ∧ s 223 h = V (16 + 12 * h)) ∧
  (∀ h f, h < 13 → f < 4 → s (225 + h) f = V (17 + 12 * h + f)) ∧
  (∀ q i, q < 8 → i < 3 → s (260 + q) i = V (170 + 3 * q + i)) ∧
  (∀ p, p < 20 → s (540 + p) 0 = V (200 + 2 * p) ∧ s (540 + p) 1 = V (201 + 2 * p))
abbrev w_k_us (j : Nat) : Prop := j < 8 ∨ (10 ≤ j ∧ j < 166 ∧ (j - 10) % 12 < 11) ∨ (170 ≤ j ∧ j < 194) ∨ (200 ≤ j ∧ j < 240)
def w_k_KV (s : g_S) (m : Nat) (V : w_k_V) : Prop := ∀ j, w_k_us j → s (561 + m) j = V j
abbrev w_k_A : Type := (Nat × (Nat → Int32)) × (Int32 × (List w_q_L × (w_k_V × List w_k_V)))
def w_k_Aok (A : w_k_A) : Prop :=
  A.1.1 ≤ 500 ∧ (∀ j, j < A.1.1 → w_k_wi (A.1.2 j) 0 255) ∧ A.2.2.1.length ≤ 4 ∧ w_k_Vok A.2.2.1.length A.2.2.2.1 ∧ A.2.2.2.2.length ≤ 3 ∧
  ∀ V, V ∈ A.2.2.2.2 → w_k_Vok A.2.2.1.length V
def w_k_CI (s : g_S) (A : w_k_A) : Prop :=
  (s 0 1 = nI A.1.1 ∧ s 0 3 = nI A.2.2.1.length ∧ s 0 6 = A.2.1 ∧ s 0 11 = nI A.2.2.2.2.length) ∧
  (∀ j, j < A.1.1 → s 1 j = A.1.2 j) ∧ w_k_LR s 3 w_q_no ∧
  (∀ l L, A.2.2.1[l]? = some L → w_k_LR s (86 + 8 * l) L) ∧
  w_k_CV s 22 A.2.2.2.1 ∧
  ∀ m V, A.2.2.2.2.reverse[m]? = some V → w_k_CV s (118 + 27 * m) V
abbrev w_k_TR : Type := (Nat → Int32) → Nat → w_q_L → Prop
def w_k_MI (TR : w_k_TR) (s : g_S) (A : w_k_A) : Prop :=
  (s 199 1 = nI A.1.1 ∧ s 199 12 = nI A.2.2.1.length ∧ s 199 3 = A.2.1 ∧ s 199 52 = nI A.2.2.2.2.length) ∧
  (∀ j, j < A.1.1 → s 200 j = A.1.2 j) ∧
  (∀ l L, A.2.2.1[l]? = some L → ∃ n, n ≤ 500 ∧ s 206 l = nI n ∧ TR (s (202 + l)) n L) ∧
  w_k_MV s A.2.2.2.1 ∧
  ∀ m V, A.2.2.2.2.reverse[m]? = some V → w_k_KV s m V
/-! Scratch, and what writes do. -/
def w_k_sC (x : Nat) : Prop := x = 10 ∨ (11 ≤ x ∧ x ≤ 21) ∨ (49 ≤ x ∧ x ≤ 75) ∨ (77 ≤ x ∧ x ≤ 85) ∨ x = 93 ∨ x = 101 ∨ x = 109 ∨ x = 117
def w_k_sM (x b : Nat) : Prop := (x = 199 ∧ (b = 0 ∨ b = 2 ∨ (4 ≤ b ∧ b ≤ 8) ∨ (15 ≤ b ∧ b ≤ 25) ∨ b = 34 ∨ b = 46 ∨ b = 47)) ∨ x = 207 ∨ (238 ≤ x ∧ x ≤ 258) ∨ (268 ≤ x ∧ x ≤ 538)
def w_k_eC (s t : g_S) : Prop := ∀ x, ¬ w_k_sC x → t x = s x
def w_k_eM (s t : g_S) : Prop := ∀ x b, ¬ w_k_sM x b → t x b = s x b
theorem w_k_eC_rfl {s : g_S} : w_k_eC s s := fun _ _ => rfl
theorem w_k_eM_rfl {s : g_S} : w_k_eM s s := fun _ _ _ => rfl
theorem w_k_eC_tr {s t u : g_S} (h : w_k_eC s t) (g : w_k_eC t u) : w_k_eC s u := fun x hx => (g x hx).trans (h x hx)
theorem w_k_eM_tr {s t u : g_S} (h : w_k_eM s t) (g : w_k_eM t u) : w_k_eM s u := fun x b hx => (g x b hx).trans (h x b hx)
theorem w_k_eC_w {s t : g_S} {x b : Nat} {v : Int32} (h : w_k_eC s t) (hx : w_k_sC x) : w_k_eC s (g_w t x b v) := fun y hy => by
  rw [w_k_wn (fun e => hy (by rw [e]; exact hx))]; exact h y hy
theorem w_k_eM_w {s t : g_S} {x b : Nat} {v : Int32} (h : w_k_eM s t) (hx : w_k_sM x b) : w_k_eM s (g_w t x b v) := fun y c hy => by
  by_cases e : y = x
  · subst e
    rw [w_k_we, w_k_un (fun e => hy (by rw [e]; exact hx))]; exact h y c hy
  · rw [w_k_wn e]; exact h y c hy
theorem w_k_LR_cg {s t : g_S} {l : Nat} {L : w_q_L} (h : ∀ x, l ≤ x → x < l + 7 → t x = s x) (H : w_k_LR s l L) : w_k_LR t l L := by
  unfold w_k_LR at H ⊢
  rw [h l (by omega) (by omega), h (l + 1) (by omega) (by omega), h (l + 2) (by omega) (by omega), h (l + 3) (by omega) (by omega), h (l + 4) (by omega) (by omega), h (l + 5) (by omega) (by omega), h (l + 6) (by omega) (by omega)]
  exact H
theorem w_k_CH_cg {s t : g_S} {x h : Nat} {V W : w_k_V} (hx : t x = s x) (hV : ∀ j, 10 + 12 * h ≤ j → j < 22 + 12 * h → W j = V j) (H : w_k_CH s x h V) : w_k_CH t x h W := by
  obtain ⟨h1, h2, h3, m, hm, h4, h5⟩ := H
  unfold w_k_CH
  rw [hx]
  refine ⟨fun i hi => ?_, ?_, ?_, m, hm, h4, fun f hf => ?_⟩
  · rw [h1 i hi, hV _ (by omega) (by omega)]
  · rw [h2, hV _ (by omega) (by omega)]
  · rw [h3, hV _ (by omega) (by omega)]
  · rw [hV _ (by omega) (by omega), h5 f hf]

theorem w_k_CV_mk {s t : g_S} {c : Nat} {V W : w_k_V} (H : w_k_CV s c V) (b0 : w_k_hc V ≤ 13) (b5 : w_k_qc V ≤ 8) (h0 : W 0 = V 0) (h5 : W 5 = V 5) (h6 : W 6 = V 6) (hV : ∀ j, 8 ≤ j → W j = V j)
    (ht : ∀ x, c < x → x < c + 27 → t x = s x) (h1 : t c 1 = W 0 ∧ t c 2 = W 1 ∧ t c 3 = W 2 ∧ t c 4 = W 3 ∧ t c 5 = W 4 ∧ t c 7 = W 5) : w_k_CV t c W := by
  obtain ⟨⟨_, _, _, _, _, _, a7⟩, a8, a9, b1⟩ := H
  have e0 : w_k_hc W = w_k_hc V := congrArg Int32.toNatClampNeg h0
  have w_e5 : w_k_qc W = w_k_qc V := congrArg Int32.toNatClampNeg h5
  have e6 : w_k_pc W = w_k_pc V := congrArg Int32.toNatClampNeg h6
  refine ⟨⟨h1.1, h1.2.1, h1.2.2.1, h1.2.2.2.1, h1.2.2.2.2.1, h1.2.2.2.2.2, ?_⟩, fun h hh => ?_, fun q i hq hi => ?_, fun p hp => ?_⟩
  · rw [ht (c + 3) (by omega) (by omega), a7, h6]
  · rw [e0] at hh
    exact w_k_CH_cg (ht _ (by omega) (by omega)) (fun j _ _ => hV j (by omega)) (a8 h hh)
  · rw [w_e5] at hq
    rw [ht _ (by omega) (by omega), a9 q i hq hi, hV _ (by omega)]
  · rw [e6] at hp
    rw [ht _ (by omega) (by omega), ht _ (by omega) (by omega), hV _ (by omega), hV _ (by omega)]
    exact b1 p hp
theorem w_k_CV_cg {s t : g_S} {c : Nat} {V : w_k_V} (H : w_k_CV s c V) (b0 : w_k_hc V ≤ 13) (b5 : w_k_qc V ≤ 8) (ht : ∀ x, c ≤ x → x < c + 27 → t x = s x) : w_k_CV t c V := by
  refine w_k_CV_mk H b0 b5 rfl rfl rfl (fun _ _ => rfl) (fun x h1 h2 => ht x (by omega) h2) ?_
  rw [ht c (by omega) (by omega)]
  exact ⟨H.1.1, H.1.2.1, H.1.2.2.1, H.1.2.2.2.1, H.1.2.2.2.2.1, H.1.2.2.2.2.2.1⟩
theorem w_k_CV_hand {s t : g_S} {c k : Nat} {V W : w_k_V} (H : w_k_CV s c V) (b0 : w_k_hc V ≤ 13) (b5 : w_k_qc V ≤ 8) (hk : k < w_k_hc V)
    (hV : ∀ j, j < 10 + 12 * k ∨ 21 + 12 * k ≤ j → W j = V j) (ht : ∀ x, c ≤ x → x < c + 27 → x ≠ c + 6 + k → t x = s x) (hn : w_k_CH t (c + 6 + k) k W) : w_k_CV t c W := by
  obtain ⟨a1, a8, a9, b1⟩ := H
  have e0 : w_k_hc W = w_k_hc V := congrArg Int32.toNatClampNeg (hV 0 (by omega))
  have w_e5 : w_k_qc W = w_k_qc V := congrArg Int32.toNatClampNeg (hV 5 (by omega))
  have e6 : w_k_pc W = w_k_pc V := congrArg Int32.toNatClampNeg (hV 6 (by omega))
  refine ⟨?_, fun h hh => ?_, fun q i hq hi => ?_, fun p hp => ?_⟩
  · rw [ht c (by omega) (by omega) (by omega), ht (c + 3) (by omega) (by omega) (by omega)]
    rw [hV 0 (by omega), hV 1 (by omega), hV 2 (by omega), hV 3 (by omega), hV 4 (by omega), hV 5 (by omega), hV 6 (by omega)]
    exact a1
  · rw [e0] at hh
    by_cases e : h = k
    · subst e; exact hn
    · refine w_k_CH_cg (ht _ (by omega) (by omega) (by omega)) (fun j _ _ => hV j ?_) (a8 h hh)
      omega
  · rw [w_e5] at hq
    rw [ht _ (by omega) (by omega) (by omega), a9 q i hq hi, hV _ (by omega)]
  · rw [e6] at hp
    rw [ht _ (by omega) (by omega) (by omega), ht _ (by omega) (by omega) (by omega), hV _ (by omega), hV _ (by omega)]
    exact b1 p hp
theorem w_k_MV_mk {s t : g_S} {V W : w_k_V} (H : w_k_MV s V) (hV : ∀ j, 8 ≤ j → W j = V j)
    (ht : ∀ x, 209 ≤ x → (x < 238 ∨ (260 ≤ x ∧ x < 268) ∨ (540 ≤ x ∧ x < 560)) → t x = s x)
    (h1 : t 199 26 = W 0 ∧ t 199 27 = W 1 ∧ t 199 28 = W 2 ∧ t 199 29 = W 3 ∧ t 199 13 = W 4 ∧ t 199 43 = W 5 ∧ t 199 49 = W 6 ∧ t 199 50 = W 7) : w_k_MV t W := by
  obtain ⟨_, a2, a3, a4, a5, a6⟩ := H
  refine ⟨h1, fun h i hh hi => ?_, fun h hh => ?_, fun h f hh hf => ?_, fun q i hq hi => ?_, fun p hp => ?_⟩
  · rw [ht _ (by omega) (by omega), a2 h i hh hi, hV _ (by omega)]
  · rw [ht 222 (by omega) (by omega), ht 223 (by omega) (by omega), hV _ (by omega), hV _ (by omega)]; exact a3 h hh
  · rw [ht _ (by omega) (by omega), a4 h f hh hf, hV _ (by omega)]
  · rw [ht _ (by omega) (by omega), a5 q i hq hi, hV _ (by omega)]
  · rw [ht _ (by omega) (by omega), hV _ (by omega), hV _ (by omega)]; exact a6 p hp
theorem w_k_MV_cg {s t : g_S} {V : w_k_V} (H : w_k_MV s V) (h : w_k_eM s t) : w_k_MV t V := by
  have e : ∀ x, x ≠ 199 → x ≠ 207 → ¬ (238 ≤ x ∧ x ≤ 258) → ¬ (268 ≤ x ∧ x ≤ 538) → t x = s x := fun x h1 h2 h3 h4 => funext fun b => h x b (by unfold w_k_sM; omega)
  refine w_k_MV_mk H (fun _ _ => rfl) (fun x h1 h2 => e x (by omega) (by omega) (by omega) (by omega)) ?_
  rw [h 199 26 (by unfold w_k_sM; omega), h 199 27 (by unfold w_k_sM; omega), h 199 28 (by unfold w_k_sM; omega), h 199 29 (by unfold w_k_sM; omega), h 199 13 (by unfold w_k_sM; omega), h 199 43 (by unfold w_k_sM; omega), h 199 49 (by unfold w_k_sM; omega), h 199 50 (by unfold w_k_sM; omega)]
  exact H.1
theorem w_k_Vb {n : Nat} {V : w_k_V} (h : w_k_Vok n V) : w_k_hc V ≤ 13 ∧ w_k_qc V ≤ 8 ∧ w_k_pc V ≤ 20 := ⟨h.1.2.2, h.2.1.2, h.2.2.1.2⟩
theorem w_k_lt_of {A : Type} {l : List A} {m : Nat} {a : A} (h : l[m]? = some a) : m < l.length := by
  obtain ⟨h1, _⟩ := List.getElem?_eq_some_iff.1 h
  exact h1
theorem w_k_CI_cg {s t : g_S} {A : w_k_A} (hA : w_k_Aok A) (h : ∀ x, x < 199 → ¬ w_k_sC x → t x = s x) (H : w_k_CI s A) : w_k_CI t A := by
  obtain ⟨a1, a2, a3, a4, a5, a6⟩ := H
  obtain ⟨_, _, hL, hV, hI, hIV⟩ := hA
  have e0 : t 0 = s 0 := h 0 (by omega) (by unfold w_k_sC; omega)
  have w_e1 : t 1 = s 1 := h 1 (by omega) (by unfold w_k_sC; omega)
  refine ⟨by rw [e0]; exact a1, fun j hj => by rw [w_e1]; exact a2 j hj, w_k_LR_cg (fun x h1 h2 => h x (by omega) (by unfold w_k_sC; omega)) a3, fun l L hl => ?_, ?_, fun m V hm => ?_⟩
  · have hl4 := w_k_lt_of hl
    exact w_k_LR_cg (fun x h1 h2 => h x (by omega) (by unfold w_k_sC; omega)) (a4 l L hl)
  · exact w_k_CV_cg a5 (w_k_Vb hV).1 (w_k_Vb hV).2.1 (fun x h1 h2 => h x (by omega) (by unfold w_k_sC; omega))
  · have hm3 := w_k_lt_of hm
    rw [List.length_reverse] at hm3
    have hb := w_k_Vb (hIV V (List.mem_reverse.1 (List.mem_of_getElem? hm)))
    exact w_k_CV_cg (a6 m V hm) hb.1 hb.2.1 (fun x h1 h2 => h x (by omega) (by unfold w_k_sC; omega))
theorem w_k_MI_cg {TR : w_k_TR} {s t : g_S} {A : w_k_A} (hA : w_k_Aok A) (h : ∀ x b, 199 ≤ x → x < 564 → ¬ w_k_sM x b → t x b = s x b) (H : w_k_MI TR s A) : w_k_MI TR t A := by
  obtain ⟨a1, a2, a4, a5, a6⟩ := H
  obtain ⟨_, _, hL, hV, hI, hIV⟩ := hA
  have e : ∀ x, 199 < x → x < 564 → x ≠ 207 → ¬ (238 ≤ x ∧ x ≤ 258) → ¬ (268 ≤ x ∧ x ≤ 538) → t x = s x := fun x h0 h1 h2 h3 h4 => funext fun b => h x b (by omega) (by omega) (by unfold w_k_sM; omega)
  refine ⟨?_, fun j hj => by rw [e 200 (by omega) (by omega) (by omega) (by omega) (by omega)]; exact a2 j hj, fun l L hl => ?_, ?_, fun m V hm => ?_⟩
  · rw [h 199 1 (by omega) (by omega) (by unfold w_k_sM; omega), h 199 12 (by omega) (by omega) (by unfold w_k_sM; omega), h 199 3 (by omega) (by omega) (by unfold w_k_sM; omega), h 199 52 (by omega) (by omega) (by unfold w_k_sM; omega)]
    exact a1
  · have hl4 := w_k_lt_of hl
    rw [e 206 (by omega) (by omega) (by omega) (by omega) (by omega), e (202 + l) (by omega) (by omega) (by omega) (by omega) (by omega)]
    exact a4 l L hl
  · refine w_k_MV_mk a5 (fun _ _ => rfl) (fun x h1 h2 => e x (by omega) (by omega) (by omega) (by omega) (by omega)) ?_
    rw [h 199 26 (by omega) (by omega) (by unfold w_k_sM; omega), h 199 27 (by omega) (by omega) (by unfold w_k_sM; omega), h 199 28 (by omega) (by omega) (by unfold w_k_sM; omega), h 199 29 (by omega) (by omega) (by unfold w_k_sM; omega), h 199 13 (by omega) (by omega) (by unfold w_k_sM; omega), h 199 43 (by omega) (by omega) (by unfold w_k_sM; omega), h 199 49 (by omega) (by omega) (by unfold w_k_sM; omega), h 199 50 (by omega) (by omega) (by unfold w_k_sM; omega)]
    exact a5.1
  · have hm3 := w_k_lt_of hm
    rw [List.length_reverse] at hm3
    intro j hj
    rw [e (561 + m) (by omega) (by omega) (by omega) (by omega) (by omega)]
    exact a6 m V hm j hj
/-! Simple calls: what each is on its own. -/
def w_k_if (c : Prop) [Decidable c] : Int32 := if c then 1 else 0
theorem w_e118 (s : g_S) (x y : Int32) : f118 s x y = some (w_k_if (w_k_wi x 0 y)) := by
  unfold f118 w_k_if w_k_wi; split
  · simp [*]
  · split <;> simp [*]
theorem w_e135 (s : g_S) (x y z : Int32) : f135 s x y z = some (w_k_if (w_k_wi x y z)) := by
  unfold f135 w_k_if w_k_wi; split
  · simp [*]
  · split <;> simp [*]
theorem w_k_ift {c : Prop} [Decidable c] (h : c) : w_k_if c = 1 := if_pos h
theorem w_k_iff {c : Prop} [Decidable c] (h : ¬ c) : w_k_if c = 0 := if_neg h
theorem w_k_ifb {c : Prop} [Decidable c] : m_isb (w_k_if c) = true := by unfold w_k_if; split <;> rfl
theorem w_e116t (s : g_S) : f116 s 1 = some (.inl (), s) := rfl
theorem w_e116f (s : g_S) : f116 s 0 = some (.inr 0, s) := rfl
theorem w_e117t {s : g_S} {p : Int32} (h : w_k_wi p 0 (s 22 1 - 1)) : f117 s p = some (.inl (), s) := by
  unfold f117; rw [w_e118, w_k_ift h]; rfl
theorem w_e117f {s : g_S} {p : Int32} (h : ¬ w_k_wi p 0 (s 22 1 - 1)) : f117 s p = some (.inr 1, s) := by
  unfold f117; rw [w_e118, w_k_iff h]; rfl
theorem w_e119 (s : g_S) (p : Int32) : f119 s p = some (w_k_if (w_k_wi p 0 (s 0 3 - 1))) := by
  unfold f119; rw [w_e118, w_k_bs, if_pos w_k_ifb]
theorem w_e173 (s : g_S) (p : Int32) : f173 s p = some (w_k_if (w_k_wi p 0 (s 199 26 - 1))) := by
  unfold f173; rw [w_e135, w_k_bs, if_pos w_k_ifb]
theorem w_e134o {s : g_S} {w : Int32} (h : s 199 0 = 0) : f134 s 0 w = some (0, s) := by
  unfold f134 f134_8; rw [if_pos rfl, if_pos h]
theorem w_e134b {s : g_S} {w : Int32} (h : s 199 0 = 0) (hw : w ≠ 0) : f134 s 1 w = some (1, g_w s 199 0 w) := by
  unfold f134 f134_8; rw [if_neg (by decide), if_pos h, w_k_let, if_neg]
  rw [w_k_we, w_k_ue]; exact hw
theorem w_k_00 {s : g_S} : g_w s 199 0 0 199 0 = 0 := rfl
theorem w_k_0n {s : g_S} {b : Nat} (h : b ≠ 0) : g_w s 199 0 0 199 b = s 199 b := by rw [w_k_we, w_k_un h]
theorem w_k_0x {s : g_S} {x : Nat} {v : Int32} (h : x ≠ 199) : g_w s 199 0 v x = s x := w_k_wn h
theorem w_e86 (s : g_S) (v : Int32) : f86 s v = if w_k_wi v 0 9999 then some (.inl (s 22 2), g_w s 22 2 v) else some (.inr 0, s) := by
  unfold f86; rw [w_e118]
  by_cases h : w_k_wi v 0 9999
  · rw [w_k_ift h, if_pos h]; rfl
  · rw [w_k_iff h, if_neg h]; rfl
theorem w_e175 (s : g_S) (v : Int32) : f175 s v = if w_k_wi v 0 9999 then some (s 199 27, g_w (g_w s 199 0 0) 199 27 v) else some (0, g_w (g_w s 199 0 0) 199 0 1) := by
  unfold f175; rw [w_k_let, w_e135]
  by_cases h : w_k_wi v 0 9999
  · rw [w_k_ift h, if_pos h, w_k_bs, if_neg (by decide), f175_12, w_e134o w_k_00]; rfl
  · rw [w_k_iff h, if_neg h, w_k_bs, if_pos rfl, f175_12, w_e134b w_k_00 (by decide)]; rfl
/-! How a call of both sides is put together. -/
def w_k_sV (A : w_k_A) (W : w_k_V) : w_k_A := (A.1, (A.2.1, (A.2.2.1, (W, A.2.2.2.2))))
theorem w_k_Aok_V {A : w_k_A} {W : w_k_V} (h : w_k_Aok A) (hW : w_k_Vok A.2.2.1.length W) : w_k_Aok (w_k_sV A W) := ⟨h.1, h.2.1, h.2.2.1, hW, h.2.2.2.2⟩
theorem w_k_CI_V {s t : g_S} {A : w_k_A} {W : w_k_V} (hA : w_k_Aok A) (h : ∀ x, x < 199 → ¬ w_k_sC x → ¬ (22 ≤ x ∧ x ≤ 48) → t x = s x) (H : w_k_CI s A) (hW : w_k_CV t 22 W) : w_k_CI t (w_k_sV A W) := by
  obtain ⟨a1, a2, a3, a4, a5, a6⟩ := H
  obtain ⟨_, _, hL, hV, hI, hIV⟩ := hA
  have e0 : t 0 = s 0 := h 0 (by omega) (by unfold w_k_sC; omega) (by omega)
  have w_e1 : t 1 = s 1 := h 1 (by omega) (by unfold w_k_sC; omega) (by omega)
  refine ⟨by rw [e0]; exact a1, fun j hj => by rw [w_e1]; exact a2 j hj, w_k_LR_cg (fun x h1 h2 => h x (by omega) (by unfold w_k_sC; omega) (by omega)) a3, fun l L hl => ?_, hW, fun m V hm => ?_⟩
  · have hl4 := w_k_lt_of hl
    have hl5 : l < A.2.2.1.length := hl4
    exact w_k_LR_cg (fun x h1 h2 => h x (by omega) (by unfold w_k_sC; omega) (by omega)) (a4 l L hl)
  · have hm3 := w_k_lt_of hm
    rw [List.length_reverse] at hm3
    have hm4 : m < A.2.2.2.2.length := hm3
    have hb := w_k_Vb (hIV V (List.mem_reverse.1 (List.mem_of_getElem? hm)))
    exact w_k_CV_cg (a6 m V hm) hb.1 hb.2.1 (fun x h1 h2 => h x (by omega) (by unfold w_k_sC; omega) (by omega))
def w_k_ch (x b : Nat) : Prop := (x = 199 ∧ (b = 13 ∨ (26 ≤ b ∧ b ≤ 29) ∨ b = 43 ∨ b = 49 ∨ b = 50)) ∨ (208 ≤ x ∧ x ≤ 237) ∨ (259 ≤ x ∧ x ≤ 267) ∨ (539 ≤ x ∧ x ≤ 559)
theorem w_k_MI_V {TR : w_k_TR} {s t : g_S} {A : w_k_A} {W : w_k_V} (hA : w_k_Aok A) (h : ∀ x b, 199 ≤ x → x < 564 → ¬ w_k_sM x b → ¬ w_k_ch x b → t x b = s x b) (H : w_k_MI TR s A) (hW : w_k_MV t W) : w_k_MI TR t (w_k_sV A W) := by
  obtain ⟨a1, a2, a4, a5, a6⟩ := H
  obtain ⟨_, _, hL, hV, hI, hIV⟩ := hA
  have e : ∀ x, 199 < x → (x < 207 ∨ (560 ≤ x ∧ x < 564)) → t x = s x := fun x h0 h1 => funext fun b => h x b (by omega) (by omega) (by unfold w_k_sM; omega) (by unfold w_k_ch; omega)
  refine ⟨?_, fun j hj => by rw [e 200 (by omega) (by omega)]; exact a2 j hj, fun l L hl => ?_, hW, fun m V hm => ?_⟩
  · rw [h 199 1 (by omega) (by omega) (by unfold w_k_sM; omega) (by unfold w_k_ch; omega), h 199 12 (by omega) (by omega) (by unfold w_k_sM; omega) (by unfold w_k_ch; omega), h 199 3 (by omega) (by omega) (by unfold w_k_sM; omega) (by unfold w_k_ch; omega), h 199 52 (by omega) (by omega) (by unfold w_k_sM; omega) (by unfold w_k_ch; omega)]
    exact a1
  · have hl4 : l < A.2.2.1.length := w_k_lt_of hl
    rw [e 206 (by omega) (by omega), e (202 + l) (by omega) (by omega)]
    exact a4 l L hl
  · have hm3 := w_k_lt_of hm
    rw [List.length_reverse] at hm3
    have hm4 : m < A.2.2.2.2.length := hm3
    intro j hj
    rw [e (561 + m) (by omega) (by omega)]
    exact a6 m V hm j hj
def w_k_cop (s : g_S) (x : Option ((Int32 ⊕ Nat) × g_S)) (r : Int32 ⊕ Nat) (B : w_k_A) : Prop := w_OK x fun w => w.1 = r ∧ w_k_CI w.2 B ∧ ∀ y, 199 ≤ y → w.2 y = s y
def w_k_cov (s : g_S) (x : Option (Int32 × g_S)) (v : Int32) (B : w_k_A) : Prop := w_OK x fun w => w.1 = v ∧ w_k_CI w.2 B ∧ ∀ y, 199 ≤ y → w.2 y = s y
def w_k_mop (TR : w_k_TR) (cd : Nat → Int32) (s : g_S) (x : Option (Int32 × g_S)) (r : Int32 ⊕ Nat) (B : w_k_A) : Prop :=
  w_OK x fun w => w_k_MI TR w.2 B ∧ (∀ y, y < 199 ∨ y = 564 → w.2 y = s y) ∧ (∀ v, r = .inl v → w.2 199 0 = 0 ∧ w.1 = v) ∧ ∀ e, r = .inr e → w.2 199 0 = cd e
def w_k_mov (TR : w_k_TR) (s : g_S) (x : Option (Int32 × g_S)) (v : Int32) (B : w_k_A) : Prop :=
  w_OK x fun w => w_k_MI TR w.2 B ∧ (∀ y, y < 199 ∨ y = 564 → w.2 y = s y) ∧ w.1 = v
def w_k_In (TR : w_k_TR) (s : g_S) (A : w_k_A) : Prop := w_k_Aok A ∧ w_k_CI s A ∧ w_k_MI TR s A
def w_k_nx (TR : w_k_TR) (ex : Nat) (x4 : Int32) (w : (Int32 × (g_S × Nat)) ⊕ (Int32 × (g_S × Nat))) : Prop := ∃ B t e, w = .inl (x4 + 7, (t, e)) ∧ w_k_In TR t B ∧ e ≤ ex + 1
def w_k_cI (e : Nat) : Int32 := if e = 0 then 1 else 0
def w_k_cN (e : Nat) : Int32 := if e = 1 then 1 else 0
def w_k_cB (e : Nat) : Int32 := if e = 1 then 1 else if e = 0 then 2 else 0
theorem w_k_cmp (v : Int32) : lg_cmp v.toInt64 v.toInt64 = 0 := by
  unfold lg_cmp
  rw [if_neg, if_pos rfl]
  exact Int64.lt_irrefl
theorem w_glue {TR : w_k_TR} {s : g_S} {A B : w_k_A} {ex : Nat} {x4 : Int32} {cd : Nat → Int32} {x : Option ((Int32 ⊕ Nat) × g_S)} {M : g_S → Option (Int32 × g_S)} {r : Int32 ⊕ Nat} {h : Nat → g_S → Option ((Int32 × Nat) × g_S)}
    {K : Int32 → Nat → g_S → Int32 → g_S → Int32 → Option ((Int32 × (g_S × Nat)) ⊕ (Int32 × (g_S × Nat)))}
    (hA : w_k_In TR s A) (hB : w_k_Aok B) (hc : w_k_cop s x r B) (hm : ∀ t, w_k_MI TR t A → w_k_mop TR cd t (M t) r B)
    (hr : ∀ e t, r = .inr e → h e t = some ((cd e, 1), t) ∧ cd e ≠ 0)
    (hK : ∀ v n t u w q, K v n t u w q = if q = v then (if v = 0 then (if (lg_cmp ((w 564 0).toInt64) u.toInt64) = 0 then (some (.inl (x4 + 7, (w, ex + n)))) else (some (.inr (0, (w, ex + n))))) else (some (.inl (x4 + 7, (w, ex + n))))) else (some (.inr (0, (w, ex + n))))) :
    w_OK (g_wd (g_wb x (fun v1 s2 => g_let (g_w s2 564 0 v1) fun s3 => some ((0, 0), s3)) h) fun v2 k4 s3 => g_bd (M s3) fun v5 s6 => (f133 s6).bind fun v7 => K v2 k4 s3 v5 s6 v7) (w_k_nx TR ex x4) := by
  obtain ⟨⟨w1, t⟩, rfl, h1, h2, h3⟩ := hc
  simp only at h1 h2 h3
  subst h1
  obtain ⟨hA1, hA2, hA3⟩ := hA
  cases w1 with
  | inl v =>
    show w_OK (g_bd (M (g_w t 564 0 v)) (fun v5 s6 => (f133 s6).bind fun v7 => K 0 0 (g_w t 564 0 v) v5 s6 v7)) _
    have hM : w_k_MI TR (g_w t 564 0 v) A := w_k_MI_cg hA1 (fun y b h1 h2 _ => by rw [w_k_wn (by omega), h3 y h1]) hA3
    obtain ⟨⟨u, t2⟩, w_e2, g1, g2, g3, g4⟩ := hm _ hM
    simp only at g1 g2 g3 g4
    rw [w_e2, w_k_bd]
    obtain ⟨g5, g6⟩ := g3 v rfl
    show w_OK (K 0 0 _ u t2 (t2 199 0)) _
    rw [hK, if_pos g5, if_pos rfl, g2 564 (Or.inr rfl), w_k_we, w_k_ue, g6, w_k_cmp, if_pos rfl]
    refine w_ok_some ⟨B, _, _, rfl, ⟨hB, w_k_CI_cg hB (fun y hy _ => ?_) h2, g1⟩, by omega⟩
    rw [g2 y (Or.inl hy), w_k_wn (by omega)]
  | inr e =>
    obtain ⟨q1, q2⟩ := hr e t rfl
    show w_OK (g_wd (h e t) _) _
    rw [q1]
    show w_OK (g_bd (M t) (fun v5 s6 => (f133 s6).bind fun v7 => K (cd e) 1 t v5 s6 v7)) _
    have hM : w_k_MI TR t A := w_k_MI_cg hA1 (fun y b h1 h2 _ => by rw [h3 y h1]) hA3
    obtain ⟨⟨u, t2⟩, w_e2, g1, g2, g3, g4⟩ := hm _ hM
    simp only at g1 g2 g3 g4
    rw [w_e2, w_k_bd]
    show w_OK (K (cd e) 1 _ u t2 (t2 199 0)) _
    rw [hK, if_pos (g4 e rfl), if_neg q2]
    refine w_ok_some ⟨B, _, _, rfl, ⟨hB, w_k_CI_cg hB (fun y hy _ => ?_) h2, g1⟩, by omega⟩
    rw [g2 y (Or.inl hy)]
theorem w_glue2 {TR : w_k_TR} {s : g_S} {A B : w_k_A} {ex : Nat} {x4 : Int32} {x : Option (Int32 × g_S)} {M : g_S → Option (Int32 × g_S)} {v : Int32}
    (hA : w_k_In TR s A) (hB : w_k_Aok B) (hc : w_k_cov s x v B) (hm : ∀ t, w_k_MI TR t A → w_k_mov TR t (M t) v B) :
    w_OK (g_bd x fun v1 s2 => g_bd (M s2) fun v3 s4 => if v1 = v3 then some (Sum.inl (x4 + 7, (s4, ex))) else some (Sum.inr ((0 : Int32), (s4, ex)))) (w_k_nx TR ex x4) := by
  obtain ⟨⟨w1, t⟩, rfl, h1, h2, h3⟩ := hc
  simp only at h1 h2 h3
  subst h1
  obtain ⟨hA1, hA2, hA3⟩ := hA
  rw [w_k_bd]
  have hM : w_k_MI TR t A := w_k_MI_cg hA1 (fun y b h1 h2 _ => by rw [h3 y h1]) hA3
  obtain ⟨⟨u, t2⟩, w_e2, g1, g2, g3⟩ := hm _ hM
  simp only at g1 g2 g3
  rw [w_e2, w_k_bd, if_pos g3.symm]
  refine w_ok_some ⟨B, _, _, rfl, ⟨hB, w_k_CI_cg hB (fun y hy _ => ?_) h2, g1⟩, by omega⟩
  rw [g2 y (Or.inl hy)]
