/-! Phase 2: tools. -/
theorem k_wn {s : g_S} {x b y : Nat} {v : Int32} (h : y ≠ x) : g_w s x b v y = s y := if_neg h
theorem k_we {s : g_S} {x b : Nat} {v : Int32} : g_w s x b v x = upd (s x) b v := if_pos rfl
theorem k_wan {s : g_S} {x y : Nat} {f : Nat → Int32} (h : y ≠ x) : g_wa s x f y = s y := if_neg h
theorem k_wae {s : g_S} {x : Nat} {f : Nat → Int32} : g_wa s x f x = f := if_pos rfl
theorem k_un {f : Nat → Int32} {k j : Nat} {v : Int32} (h : j ≠ k) : upd f k v j = f j := if_neg h
theorem k_ue {f : Nat → Int32} {k : Nat} {v : Int32} : upd f k v k = v := if_pos rfl
theorem k_nI {k : Nat} (h : k < 2147483648) : (nI k).toInt = k := Int32.toInt_ofNat_of_lt h
theorem k_nat {k : Nat} (h : k < 2147483648) : (nI k).toNatClampNeg = k := by rw [← Int32.toNat_toInt, k_nI h]; rfl
theorem k_lt {a b : Nat} (ha : a < 2147483648) (hb : b < 2147483648) : (nI a < nI b) ↔ a < b := by rw [Int32.lt_iff_toInt_lt, k_nI ha, k_nI hb]; omega
theorem k_eq {a b : Nat} (ha : a < 2147483648) (hb : b < 2147483648) : (nI a = nI b) ↔ a = b := by rw [← Int32.toInt_inj, k_nI ha, k_nI hb]; omega
theorem k_add (a b : Nat) : nI a + nI b = nI (a + b) := (Int32.ofNat_add a b).symm
theorem k_s1 (a : Nat) : nI a + 1 = nI (a + 1) := k_add a 1
theorem k_p1 (a : Nat) : nI (a + 1) + (-1) = nI a := by rw [← k_s1]; grind
theorem k_m1 (a : Nat) : nI (a + 1) - 1 = nI a := by rw [← k_s1]; grind
theorem k_in {j : Int32} {n : Nat} : m_in j n = true ↔ 0 ≤ j.toInt ∧ j.toInt < n := by
  unfold m_in
  rw [decide_eq_true_iff, Int32.lt_iff_toInt_lt, ← Int32.toNat_toInt]
  show ¬ (j.toInt < (0 : Int) ∨ _) ↔ _
  omega
theorem k_inI {k n : Nat} (h : k < 2147483648) : m_in (nI k) n = true ↔ k < n := by rw [k_in, k_nI h]; omega
theorem k_b0 : m_isb 0 = true := rfl
theorem k_b1 : m_isb 1 = true := rfl
theorem k_of {x : Int32} (h : ¬ x < 0) : ∃ k : Nat, k < 2147483648 ∧ x = nI k := by
  refine ⟨x.toInt.toNat, ?_, ?_⟩
  · have := Int32.toInt_le x
    have h2 : (Int32.maxValue).toInt = 2147483647 := rfl
    omega
  · have := Int32.toInt_le x
    have h2 : (Int32.maxValue).toInt = 2147483647 := rfl
    have h3 : ¬ x.toInt < (0 : Int32).toInt := fun e => h (Int32.lt_iff_toInt_lt.2 e)
    have h4 : (0 : Int32).toInt = 0 := rfl
    rw [← Int32.toInt_inj, k_nI (by omega)]
    omega
/-- it comes to an end, and so -/
def OK {A : Type} (x : Option A) (Q : A → Prop) : Prop := ∃ r, x = some r ∧ Q r
theorem ok_some {A : Type} {a : A} {Q : A → Prop} (h : Q a) : OK (some a) Q := ⟨a, rfl, h⟩
theorem ok_mono {A : Type} {x : Option A} {P Q : A → Prop} (h : OK x P) (k : ∀ a, P a → Q a) : OK x Q := by
  obtain ⟨r, e, h⟩ := h
  exact ⟨r, e, k r h⟩
theorem ok_eq {A : Type} {x : Option A} {a : A} {Q : A → Prop} (h : x = some a) (k : Q a) : OK x Q := ⟨a, h, k⟩
theorem ok_let {B : Type} {e : g_S} {k : g_S → Option B} {Q : B → Prop} (h : OK (k e) Q) : OK (g_let e k) Q := h
theorem ok_bind {A B : Type} {x : Option A} {k : A → Option B} {P : A → Prop} {Q : B → Prop} (h : OK x P) (g : ∀ a, P a → OK (k a) Q) : OK (x.bind k) Q := by
  obtain ⟨r, rfl, h⟩ := h
  exact g r h
theorem ok_bd {A B : Type} {x : Option (A × g_S)} {k : A → g_S → Option B} {P : A × g_S → Prop} {Q : B → Prop} (h : OK x P) (g : ∀ a s, P (a, s) → OK (k a s) Q) : OK (g_bd x k) Q := by
  obtain ⟨⟨a, s⟩, rfl, h⟩ := h
  exact g a s h
theorem ok_map {A B : Type} {x : Option A} {k : A → B} {Q : B → Prop} (h : OK x (fun a => Q (k a))) : OK (x.map k) Q := by
  obtain ⟨r, rfl, h⟩ := h
  exact ⟨_, rfl, h⟩
theorem ok_if {A : Type} {c : Prop} [Decidable c] {a b : Option A} {Q : A → Prop} (h : c → OK a Q) (g : ¬ c → OK b Q) : OK (if c then a else b) Q := by
  by_cases hc : c
  · rw [if_pos hc]; exact h hc
  · rw [if_neg hc]; exact g hc
theorem ok_gd {A : Type} {c : Prop} [Decidable c] {a : Option A} {Q : A → Prop} (hc : c) (h : OK a Q) : OK (if c then a else none) Q := by rw [if_pos hc]; exact h
theorem k_bd {A B : Type} {a : A} {s : g_S} {k : A → g_S → Option B} : g_bd (some (a, s)) k = k a s := rfl
theorem k_tbl {A B : Type} {a : A} {s : g_S} {k : A → g_S → Option ((B ⊕ Nat) × g_S)} : g_tb (some (.inl a, s)) k = k a s := rfl
theorem k_tbr {A B : Type} {e : Nat} {s : g_S} {k : A → g_S → Option ((B ⊕ Nat) × g_S)} : g_tb (some (.inr e, s)) k = some (.inr e, s) := rfl
theorem k_bs {A B : Type} {a : A} {k : A → Option B} : (some a).bind k = k a := rfl
theorem k_let {B : Type} {e : g_S} {k : g_S → Option B} : g_let e k = k e := rfl
/-- within -/
abbrev k_wi (x lo hi : Int32) : Prop := ¬ x < lo ∧ ¬ hi < x
/-! What both sides hold: laws as clauses, the chain as one row of ints. -/
/-- a clause: sort, keepings, things, steps -/
abbrev q_C : Type := Int32 × (Int32 × (Int32 × List Int32))
/-- a law: clauses, and how goods are mixed (-1 none, 0 by parts, 1 by last) -/
abbrev q_L : Type := List q_C × Int32
def q_bit (x e : Int32) : Bool := decide (((x >>> (e &&& 31)) &&& 1) = 1)
def q_is (c : q_C) (t k : Int32) : Bool := decide (c.1 = t) && q_bit c.2.1 k
def q_join (x a b : Int32) : Int32 :=
  if x = 43 then a + b else if x = 45 then a - b else if x = 42 then a * b else if x = 47 then (if b = 0 then 0 else a / b)
  else if x = 60 then (if a < b then 1 else 0) else if x = 62 then (if b < a then 1 else 0) else if x = 61 then (if a = b then 1 else 0)
  else if x = 108 then g_min a b else if x = 109 then g_max a b else if x = 38 then a &&& b else a ||| b
def q_step (nm : Nat → Int32) (st : List Int32) (x : Int32) : List Int32 :=
  if x < 8 then (if st.length < 24 then nm x.toNatClampNeg :: st else st)
  else if x < 256 then
    (if x = 33 then (match st with | [] => [] | a :: r => (1 - a) :: r)
     else (match st with | b :: a :: r => q_join x a b :: r | r => r))
  else (if st.length < 24 then (x - 256) :: st else st)
def q_run (nm : Nat → Int32) (xs : List Int32) : List Int32 := xs.foldl (q_step nm) []
def q_top (st : List Int32) : Int32 := match st with | [] => 0 | a :: _ => a
def q_work (nm : Nat → Int32) (xs : List Int32) : Int32 := q_top (q_run nm xs)
def q_hold1 (c : q_C) (t k h : Int32) (nm : Nat → Int32) : Bool := q_is c t k && (q_bit c.2.2.1 h && (c.2.2.2.isEmpty || !decide (q_work nm c.2.2.2 = 0)))
def q_holds (L : q_L) (t k h : Int32) (nm : Nat → Int32) : Bool := L.1.any fun c => q_hold1 c t k h nm
def q_clip (x : Int32) : Int32 := g_max 0 (g_min 9999 x)
def q_owes (cs : List q_C) (k : Int32) (nm : Nat → Int32) : Int32 := match cs with
  | [] => nm 6
  | c :: r => if q_is c 2 k = true then q_clip (q_work nm c.2.2.2) else q_owes r k nm
def q_owed (L : q_L) (k : Int32) (nm : Nat → Int32) : Int32 := q_owes L.1.reverse k nm
def q_lets (L : q_L) (k t : Int32) : Bool := L.1.any fun c => q_is c 3 k && q_bit c.2.2.1 t
def q_twice (L : q_L) (k : Int32) : Bool := L.1.any fun c => q_is c 4 k
def q_no : q_L := ([], -1)
def q_b (b : Bool) : Int32 := if b = true then 1 else 0
/-- a law as the class holds it at cell l -/
def k_LR (s : g_S) (l : Nat) (L : q_L) : Prop :=
  s l 0 = L.2 ∧ s l 1 = nI L.1.length ∧ L.1.length ≤ 24 ∧
  ∀ i c, L.1[i]? = some c → s (l + 1) i = c.1 ∧ s (l + 2) i = c.2.1 ∧ s (l + 3) i = c.2.2.1 ∧
    ∃ a : Nat, a + c.2.2.2.length ≤ 500 ∧ s (l + 4) i = nI a ∧ s (l + 5) i = nI (a + c.2.2.2.length) ∧
      ∀ j x, c.2.2.2[j]? = some x → ¬ x < 0 ∧ s (l + 6) (a + j) = x
abbrev k_V : Type := Nat → Int32
def k_hc (V : k_V) : Nat := (V 0).toNatClampNeg
def k_qc (V : k_V) : Nat := (V 5).toNatClampNeg
def k_pc (V : k_V) : Nat := (V 6).toNatClampNeg
def k_sum (V : k_V) : Nat → Int32
  | 0 => 0
  | p + 1 => k_sum V p + V (201 + 2 * p)
/-- what a chain's row may be, laws being n -/
def k_Vok (n : Nat) (V : k_V) : Prop :=
  (V 0 = nI (k_hc V) ∧ 1 ≤ k_hc V ∧ k_hc V ≤ 13) ∧ (V 5 = nI (k_qc V) ∧ k_qc V ≤ 8) ∧ (V 6 = nI (k_pc V) ∧ k_pc V ≤ 20) ∧
  k_wi (V 2) (-1) 5 ∧ k_wi (V 3) 0 999 ∧ (V 4 = -1 ∨ ∃ l, l < n ∧ V 4 = nI l) ∧ V 7 = k_sum V (k_pc V) ∧
  (∀ h, 1 ≤ h → h < k_hc V → k_wi (V (10 + 12 * h)) 0 5 ∧ k_wi (V (11 + 12 * h)) 0 999 ∧ k_wi (V (13 + 12 * h)) 0 3) ∧
  (∀ h f, h < 13 → f < 4 → m_isb (V (17 + 12 * h + f)) = true) ∧
  (∀ q, q < k_qc V → k_wi (V (170 + 3 * q)) 0 5 ∧ (V (170 + 3 * q) < 4 → k_wi (V (171 + 3 * q)) 0 (V 0 - 1)) ∧
    (V (170 + 3 * q) = 4 → k_wi (V (172 + 3 * q)) 0 5) ∧ (V (170 + 3 * q) = 5 → k_wi (V (172 + 3 * q)) 0 999)) ∧
  (∀ p, p < k_pc V → k_wi (V (201 + 2 * p)) 0 999) ∧ k_wi (V 1) 0 9999 ∧ (∀ h, h < k_hc V → k_wi (V (15 + 12 * h)) 0 9999)
/-- a hand of the class -/
def k_CH (s : g_S) (x h : Nat) (V : k_V) : Prop :=
  (∀ i, i < 5 → s x i = if h = 0 then -1 else V (10 + 12 * h + i)) ∧ s x 5 = V (15 + 12 * h) ∧ s x 6 = V (16 + 12 * h) ∧
  ∃ m, m < 16 ∧ s x 7 = nI m ∧ ∀ f, f < 4 → V (17 + 12 * h + f) = q_b (m.testBit f)
/-- a chain of the class at cell c -/
def k_CV (s : g_S) (c : Nat) (V : k_V) : Prop :=
  (s c 1 = V 0 ∧ s c 2 = V 1 ∧ s c 3 = V 2 ∧ s c 4 = V 3 ∧ s c 5 = V 4 ∧ s c 7 = V 5 ∧ s (c + 3) 0 = V 6) ∧
  (∀ h, h < k_hc V → k_CH s (c + 6 + h) h V) ∧
  (∀ q i, q < k_qc V → i < 3 → s (c + 19 + q) i = V (170 + 3 * q + i)) ∧
  (∀ p, p < k_pc V → s (c + 4) p = V (200 + 2 * p) ∧ s (c + 5) p = V (201 + 2 * p))
/-- the model's chain -/
def k_MV (s : g_S) (V : k_V) : Prop :=
  (s 199 26 = V 0 ∧ s 199 27 = V 1 ∧ s 199 28 = V 2 ∧ s 199 29 = V 3 ∧ s 199 13 = V 4 ∧ s 199 43 = V 5 ∧ s 199 49 = V 6 ∧ s 199 50 = V 7) ∧
  (∀ h i, h < 13 → i < 5 → s (209 + h) i = V (10 + 12 * h + i)) ∧
  (∀ h, h < 13 → s 222 h = V (15 + 12 * h) ∧ s 223 h = V (16 + 12 * h)) ∧
  (∀ h f, h < 13 → f < 4 → s (225 + h) f = V (17 + 12 * h + f)) ∧
  (∀ q i, q < 8 → i < 3 → s (260 + q) i = V (170 + 3 * q + i)) ∧
  (∀ p, p < 20 → s (540 + p) 0 = V (200 + 2 * p) ∧ s (540 + p) 1 = V (201 + 2 * p))
abbrev k_us (j : Nat) : Prop := j < 8 ∨ (10 ≤ j ∧ j < 166 ∧ (j - 10) % 12 < 11) ∨ (170 ≤ j ∧ j < 194) ∨ (200 ≤ j ∧ j < 240)
/-- an image of the model -/
def k_KV (s : g_S) (m : Nat) (V : k_V) : Prop := ∀ j, k_us j → s (561 + m) j = V j
/-- all: the tape's length and bytes, the fault's place, the laws, the chain, the images (the latest first) -/
abbrev k_A : Type := (Nat × (Nat → Int32)) × (Int32 × (List q_L × (k_V × List k_V)))
def k_Aok (A : k_A) : Prop :=
  A.1.1 ≤ 500 ∧ (∀ j, j < A.1.1 → k_wi (A.1.2 j) 0 255) ∧ A.2.2.1.length ≤ 4 ∧ k_Vok A.2.2.1.length A.2.2.2.1 ∧ A.2.2.2.2.length ≤ 3 ∧
  ∀ V, V ∈ A.2.2.2.2 → k_Vok A.2.2.1.length V
def k_CI (s : g_S) (A : k_A) : Prop :=
  (s 0 1 = nI A.1.1 ∧ s 0 3 = nI A.2.2.1.length ∧ s 0 6 = A.2.1 ∧ s 0 11 = nI A.2.2.2.2.length) ∧
  (∀ j, j < A.1.1 → s 1 j = A.1.2 j) ∧ k_LR s 3 q_no ∧
  (∀ l L, A.2.2.1[l]? = some L → k_LR s (86 + 8 * l) L) ∧
  k_CV s 22 A.2.2.2.1 ∧
  ∀ m V, A.2.2.2.2.reverse[m]? = some V → k_CV s (118 + 27 * m) V
abbrev k_TR : Type := (Nat → Int32) → Nat → q_L → Prop
def k_MI (TR : k_TR) (s : g_S) (A : k_A) : Prop :=
  (s 199 1 = nI A.1.1 ∧ s 199 12 = nI A.2.2.1.length ∧ s 199 3 = A.2.1 ∧ s 199 52 = nI A.2.2.2.2.length) ∧
  (∀ j, j < A.1.1 → s 200 j = A.1.2 j) ∧
  (∀ l L, A.2.2.1[l]? = some L → ∃ n, n ≤ 500 ∧ s 206 l = nI n ∧ TR (s (202 + l)) n L) ∧
  k_MV s A.2.2.2.1 ∧
  ∀ m V, A.2.2.2.2.reverse[m]? = some V → k_KV s m V
/-! Scratch, and what writes do. -/
def k_sC (x : Nat) : Prop := x = 10 ∨ (11 ≤ x ∧ x ≤ 21) ∨ (49 ≤ x ∧ x ≤ 75) ∨ (77 ≤ x ∧ x ≤ 85) ∨ x = 93 ∨ x = 101 ∨ x = 109 ∨ x = 117
def k_sM (x b : Nat) : Prop := (x = 199 ∧ (b = 0 ∨ b = 2 ∨ (4 ≤ b ∧ b ≤ 8) ∨ (15 ≤ b ∧ b ≤ 25) ∨ b = 34 ∨ b = 46 ∨ b = 47)) ∨ x = 207 ∨ (238 ≤ x ∧ x ≤ 258) ∨ (268 ≤ x ∧ x ≤ 538)
/-- only scratch of the class has changed -/
def k_eC (s t : g_S) : Prop := ∀ x, ¬ k_sC x → t x = s x
/-- only scratch of the model has changed -/
def k_eM (s t : g_S) : Prop := ∀ x b, ¬ k_sM x b → t x b = s x b
theorem k_eC_rfl {s : g_S} : k_eC s s := fun _ _ => rfl
theorem k_eM_rfl {s : g_S} : k_eM s s := fun _ _ _ => rfl
theorem k_eC_tr {s t u : g_S} (h : k_eC s t) (g : k_eC t u) : k_eC s u := fun x hx => (g x hx).trans (h x hx)
theorem k_eM_tr {s t u : g_S} (h : k_eM s t) (g : k_eM t u) : k_eM s u := fun x b hx => (g x b hx).trans (h x b hx)
theorem k_eC_w {s t : g_S} {x b : Nat} {v : Int32} (h : k_eC s t) (hx : k_sC x) : k_eC s (g_w t x b v) := fun y hy => by
  rw [k_wn (fun e => hy (by rw [e]; exact hx))]; exact h y hy
theorem k_eM_w {s t : g_S} {x b : Nat} {v : Int32} (h : k_eM s t) (hx : k_sM x b) : k_eM s (g_w t x b v) := fun y c hy => by
  by_cases e : y = x
  · subst e
    rw [k_we, k_un (fun e => hy (by rw [e]; exact hx))]; exact h y c hy
  · rw [k_wn e]; exact h y c hy
theorem k_LR_cg {s t : g_S} {l : Nat} {L : q_L} (h : ∀ x, l ≤ x → x < l + 7 → t x = s x) (H : k_LR s l L) : k_LR t l L := by
  unfold k_LR at H ⊢
  rw [h l (by omega) (by omega), h (l + 1) (by omega) (by omega), h (l + 2) (by omega) (by omega), h (l + 3) (by omega) (by omega), h (l + 4) (by omega) (by omega), h (l + 5) (by omega) (by omega), h (l + 6) (by omega) (by omega)]
  exact H
theorem k_CH_cg {s t : g_S} {x h : Nat} {V W : k_V} (hx : t x = s x) (hV : ∀ j, 10 + 12 * h ≤ j → j < 22 + 12 * h → W j = V j) (H : k_CH s x h V) : k_CH t x h W := by
  obtain ⟨h1, h2, h3, m, hm, h4, h5⟩ := H
  unfold k_CH
  rw [hx]
  refine ⟨fun i hi => ?_, ?_, ?_, m, hm, h4, fun f hf => ?_⟩
  · rw [h1 i hi, hV _ (by omega) (by omega)]
  · rw [h2, hV _ (by omega) (by omega)]
  · rw [h3, hV _ (by omega) (by omega)]
  · rw [hV _ (by omega) (by omega), h5 f hf]

theorem k_CV_mk {s t : g_S} {c : Nat} {V W : k_V} (H : k_CV s c V) (b0 : k_hc V ≤ 13) (b5 : k_qc V ≤ 8) (h0 : W 0 = V 0) (h5 : W 5 = V 5) (h6 : W 6 = V 6) (hV : ∀ j, 8 ≤ j → W j = V j)
    (ht : ∀ x, c < x → x < c + 27 → t x = s x) (h1 : t c 1 = W 0 ∧ t c 2 = W 1 ∧ t c 3 = W 2 ∧ t c 4 = W 3 ∧ t c 5 = W 4 ∧ t c 7 = W 5) : k_CV t c W := by
  obtain ⟨⟨_, _, _, _, _, _, a7⟩, a8, a9, b1⟩ := H
  have e0 : k_hc W = k_hc V := congrArg Int32.toNatClampNeg h0
  have e5 : k_qc W = k_qc V := congrArg Int32.toNatClampNeg h5
  have e6 : k_pc W = k_pc V := congrArg Int32.toNatClampNeg h6
  refine ⟨⟨h1.1, h1.2.1, h1.2.2.1, h1.2.2.2.1, h1.2.2.2.2.1, h1.2.2.2.2.2, ?_⟩, fun h hh => ?_, fun q i hq hi => ?_, fun p hp => ?_⟩
  · rw [ht (c + 3) (by omega) (by omega), a7, h6]
  · rw [e0] at hh
    exact k_CH_cg (ht _ (by omega) (by omega)) (fun j _ _ => hV j (by omega)) (a8 h hh)
  · rw [e5] at hq
    rw [ht _ (by omega) (by omega), a9 q i hq hi, hV _ (by omega)]
  · rw [e6] at hp
    rw [ht _ (by omega) (by omega), ht _ (by omega) (by omega), hV _ (by omega), hV _ (by omega)]
    exact b1 p hp
theorem k_CV_cg {s t : g_S} {c : Nat} {V : k_V} (H : k_CV s c V) (b0 : k_hc V ≤ 13) (b5 : k_qc V ≤ 8) (ht : ∀ x, c ≤ x → x < c + 27 → t x = s x) : k_CV t c V := by
  refine k_CV_mk H b0 b5 rfl rfl rfl (fun _ _ => rfl) (fun x h1 h2 => ht x (by omega) h2) ?_
  rw [ht c (by omega) (by omega)]
  exact ⟨H.1.1, H.1.2.1, H.1.2.2.1, H.1.2.2.2.1, H.1.2.2.2.2.1, H.1.2.2.2.2.2.1⟩
/-- one hand anew -/
theorem k_CV_hand {s t : g_S} {c k : Nat} {V W : k_V} (H : k_CV s c V) (b0 : k_hc V ≤ 13) (b5 : k_qc V ≤ 8) (hk : k < k_hc V)
    (hV : ∀ j, j < 10 + 12 * k ∨ 21 + 12 * k ≤ j → W j = V j) (ht : ∀ x, c ≤ x → x < c + 27 → x ≠ c + 6 + k → t x = s x) (hn : k_CH t (c + 6 + k) k W) : k_CV t c W := by
  obtain ⟨a1, a8, a9, b1⟩ := H
  have e0 : k_hc W = k_hc V := congrArg Int32.toNatClampNeg (hV 0 (by omega))
  have e5 : k_qc W = k_qc V := congrArg Int32.toNatClampNeg (hV 5 (by omega))
  have e6 : k_pc W = k_pc V := congrArg Int32.toNatClampNeg (hV 6 (by omega))
  refine ⟨?_, fun h hh => ?_, fun q i hq hi => ?_, fun p hp => ?_⟩
  · rw [ht c (by omega) (by omega) (by omega), ht (c + 3) (by omega) (by omega) (by omega)]
    rw [hV 0 (by omega), hV 1 (by omega), hV 2 (by omega), hV 3 (by omega), hV 4 (by omega), hV 5 (by omega), hV 6 (by omega)]
    exact a1
  · rw [e0] at hh
    by_cases e : h = k
    · subst e; exact hn
    · refine k_CH_cg (ht _ (by omega) (by omega) (by omega)) (fun j _ _ => hV j ?_) (a8 h hh)
      omega
  · rw [e5] at hq
    rw [ht _ (by omega) (by omega) (by omega), a9 q i hq hi, hV _ (by omega)]
  · rw [e6] at hp
    rw [ht _ (by omega) (by omega) (by omega), ht _ (by omega) (by omega) (by omega), hV _ (by omega), hV _ (by omega)]
    exact b1 p hp
theorem k_MV_mk {s t : g_S} {V W : k_V} (H : k_MV s V) (hV : ∀ j, 8 ≤ j → W j = V j)
    (ht : ∀ x, 209 ≤ x → (x < 238 ∨ (260 ≤ x ∧ x < 268) ∨ (540 ≤ x ∧ x < 560)) → t x = s x)
    (h1 : t 199 26 = W 0 ∧ t 199 27 = W 1 ∧ t 199 28 = W 2 ∧ t 199 29 = W 3 ∧ t 199 13 = W 4 ∧ t 199 43 = W 5 ∧ t 199 49 = W 6 ∧ t 199 50 = W 7) : k_MV t W := by
  obtain ⟨_, a2, a3, a4, a5, a6⟩ := H
  refine ⟨h1, fun h i hh hi => ?_, fun h hh => ?_, fun h f hh hf => ?_, fun q i hq hi => ?_, fun p hp => ?_⟩
  · rw [ht _ (by omega) (by omega), a2 h i hh hi, hV _ (by omega)]
  · rw [ht 222 (by omega) (by omega), ht 223 (by omega) (by omega), hV _ (by omega), hV _ (by omega)]; exact a3 h hh
  · rw [ht _ (by omega) (by omega), a4 h f hh hf, hV _ (by omega)]
  · rw [ht _ (by omega) (by omega), a5 q i hq hi, hV _ (by omega)]
  · rw [ht _ (by omega) (by omega), hV _ (by omega), hV _ (by omega)]; exact a6 p hp
theorem k_MV_cg {s t : g_S} {V : k_V} (H : k_MV s V) (h : k_eM s t) : k_MV t V := by
  have e : ∀ x, x ≠ 199 → x ≠ 207 → ¬ (238 ≤ x ∧ x ≤ 258) → ¬ (268 ≤ x ∧ x ≤ 538) → t x = s x := fun x h1 h2 h3 h4 => funext fun b => h x b (by unfold k_sM; omega)
  refine k_MV_mk H (fun _ _ => rfl) (fun x h1 h2 => e x (by omega) (by omega) (by omega) (by omega)) ?_
  rw [h 199 26 (by unfold k_sM; omega), h 199 27 (by unfold k_sM; omega), h 199 28 (by unfold k_sM; omega), h 199 29 (by unfold k_sM; omega), h 199 13 (by unfold k_sM; omega), h 199 43 (by unfold k_sM; omega), h 199 49 (by unfold k_sM; omega), h 199 50 (by unfold k_sM; omega)]
  exact H.1
theorem k_Vb {n : Nat} {V : k_V} (h : k_Vok n V) : k_hc V ≤ 13 ∧ k_qc V ≤ 8 ∧ k_pc V ≤ 20 := ⟨h.1.2.2, h.2.1.2, h.2.2.1.2⟩
theorem k_lt_of {A : Type} {l : List A} {m : Nat} {a : A} (h : l[m]? = some a) : m < l.length := by
  obtain ⟨h1, _⟩ := List.getElem?_eq_some_iff.1 h
  exact h1
/-- the class's side of all, cells 0 to 198 being as they were but for scratch -/
theorem k_CI_cg {s t : g_S} {A : k_A} (hA : k_Aok A) (h : ∀ x, x < 199 → ¬ k_sC x → t x = s x) (H : k_CI s A) : k_CI t A := by
  obtain ⟨a1, a2, a3, a4, a5, a6⟩ := H
  obtain ⟨_, _, hL, hV, hI, hIV⟩ := hA
  have e0 : t 0 = s 0 := h 0 (by omega) (by unfold k_sC; omega)
  have e1 : t 1 = s 1 := h 1 (by omega) (by unfold k_sC; omega)
  refine ⟨by rw [e0]; exact a1, fun j hj => by rw [e1]; exact a2 j hj, k_LR_cg (fun x h1 h2 => h x (by omega) (by unfold k_sC; omega)) a3, fun l L hl => ?_, ?_, fun m V hm => ?_⟩
  · have hl4 := k_lt_of hl
    exact k_LR_cg (fun x h1 h2 => h x (by omega) (by unfold k_sC; omega)) (a4 l L hl)
  · exact k_CV_cg a5 (k_Vb hV).1 (k_Vb hV).2.1 (fun x h1 h2 => h x (by omega) (by unfold k_sC; omega))
  · have hm3 := k_lt_of hm
    rw [List.length_reverse] at hm3
    have hb := k_Vb (hIV V (List.mem_reverse.1 (List.mem_of_getElem? hm)))
    exact k_CV_cg (a6 m V hm) hb.1 hb.2.1 (fun x h1 h2 => h x (by omega) (by unfold k_sC; omega))
theorem k_MI_cg {TR : k_TR} {s t : g_S} {A : k_A} (hA : k_Aok A) (h : ∀ x b, 199 ≤ x → x < 564 → ¬ k_sM x b → t x b = s x b) (H : k_MI TR s A) : k_MI TR t A := by
  obtain ⟨a1, a2, a4, a5, a6⟩ := H
  obtain ⟨_, _, hL, hV, hI, hIV⟩ := hA
  have e : ∀ x, 199 < x → x < 564 → x ≠ 207 → ¬ (238 ≤ x ∧ x ≤ 258) → ¬ (268 ≤ x ∧ x ≤ 538) → t x = s x := fun x h0 h1 h2 h3 h4 => funext fun b => h x b (by omega) (by omega) (by unfold k_sM; omega)
  refine ⟨?_, fun j hj => by rw [e 200 (by omega) (by omega) (by omega) (by omega) (by omega)]; exact a2 j hj, fun l L hl => ?_, ?_, fun m V hm => ?_⟩
  · rw [h 199 1 (by omega) (by omega) (by unfold k_sM; omega), h 199 12 (by omega) (by omega) (by unfold k_sM; omega), h 199 3 (by omega) (by omega) (by unfold k_sM; omega), h 199 52 (by omega) (by omega) (by unfold k_sM; omega)]
    exact a1
  · have hl4 := k_lt_of hl
    rw [e 206 (by omega) (by omega) (by omega) (by omega) (by omega), e (202 + l) (by omega) (by omega) (by omega) (by omega) (by omega)]
    exact a4 l L hl
  · refine k_MV_mk a5 (fun _ _ => rfl) (fun x h1 h2 => e x (by omega) (by omega) (by omega) (by omega) (by omega)) ?_
    rw [h 199 26 (by omega) (by omega) (by unfold k_sM; omega), h 199 27 (by omega) (by omega) (by unfold k_sM; omega), h 199 28 (by omega) (by omega) (by unfold k_sM; omega), h 199 29 (by omega) (by omega) (by unfold k_sM; omega), h 199 13 (by omega) (by omega) (by unfold k_sM; omega), h 199 43 (by omega) (by omega) (by unfold k_sM; omega), h 199 49 (by omega) (by omega) (by unfold k_sM; omega), h 199 50 (by omega) (by omega) (by unfold k_sM; omega)]
    exact a5.1
  · have hm3 := k_lt_of hm
    rw [List.length_reverse] at hm3
    intro j hj
    rw [e (561 + m) (by omega) (by omega) (by omega) (by omega) (by omega)]
    exact a6 m V hm j hj
/-! Simple calls: what each is on its own. -/
def k_if (c : Prop) [Decidable c] : Int32 := if c then 1 else 0
theorem e118 (s : g_S) (x y : Int32) : f118 s x y = some (k_if (k_wi x 0 y)) := by
  unfold f118 k_if k_wi; split
  · simp [*]
  · split <;> simp [*]
theorem e135 (s : g_S) (x y z : Int32) : f135 s x y z = some (k_if (k_wi x y z)) := by
  unfold f135 k_if k_wi; split
  · simp [*]
  · split <;> simp [*]
theorem k_ift {c : Prop} [Decidable c] (h : c) : k_if c = 1 := if_pos h
theorem k_iff {c : Prop} [Decidable c] (h : ¬ c) : k_if c = 0 := if_neg h
theorem k_ifb {c : Prop} [Decidable c] : m_isb (k_if c) = true := by unfold k_if; split <;> rfl
theorem e116t (s : g_S) : f116 s 1 = some (.inl (), s) := rfl
theorem e116f (s : g_S) : f116 s 0 = some (.inr 0, s) := rfl
theorem e117t {s : g_S} {p : Int32} (h : k_wi p 0 (s 22 1 - 1)) : f117 s p = some (.inl (), s) := by
  unfold f117; rw [e118, k_ift h]; rfl
theorem e117f {s : g_S} {p : Int32} (h : ¬ k_wi p 0 (s 22 1 - 1)) : f117 s p = some (.inr 1, s) := by
  unfold f117; rw [e118, k_iff h]; rfl
theorem e119 (s : g_S) (p : Int32) : f119 s p = some (k_if (k_wi p 0 (s 0 3 - 1))) := by
  unfold f119; rw [e118, k_bs, if_pos k_ifb]
theorem e173 (s : g_S) (p : Int32) : f173 s p = some (k_if (k_wi p 0 (s 199 26 - 1))) := by
  unfold f173; rw [e135, k_bs, if_pos k_ifb]
theorem e134o {s : g_S} {w : Int32} (h : s 199 0 = 0) : f134 s 0 w = some (0, s) := by
  unfold f134 f134_8; rw [if_pos rfl, if_pos h]
theorem e134b {s : g_S} {w : Int32} (h : s 199 0 = 0) (hw : w ≠ 0) : f134 s 1 w = some (1, g_w s 199 0 w) := by
  unfold f134 f134_8; rw [if_neg (by decide), if_pos h, k_let, if_neg]
  rw [k_we, k_ue]; exact hw
theorem k_00 {s : g_S} : g_w s 199 0 0 199 0 = 0 := rfl
theorem k_0n {s : g_S} {b : Nat} (h : b ≠ 0) : g_w s 199 0 0 199 b = s 199 b := by rw [k_we, k_un h]
theorem k_0x {s : g_S} {x : Nat} {v : Int32} (h : x ≠ 199) : g_w s 199 0 v x = s x := k_wn h
theorem e86 (s : g_S) (v : Int32) : f86 s v = if k_wi v 0 9999 then some (.inl (s 22 2), g_w s 22 2 v) else some (.inr 0, s) := by
  unfold f86; rw [e118]
  by_cases h : k_wi v 0 9999
  · rw [k_ift h, if_pos h]; rfl
  · rw [k_iff h, if_neg h]; rfl
theorem e175 (s : g_S) (v : Int32) : f175 s v = if k_wi v 0 9999 then some (s 199 27, g_w (g_w s 199 0 0) 199 27 v) else some (0, g_w (g_w s 199 0 0) 199 0 1) := by
  unfold f175; rw [k_let, e135]
  by_cases h : k_wi v 0 9999
  · rw [k_ift h, if_pos h, k_bs, if_neg (by decide), f175_12, e134o k_00]; rfl
  · rw [k_iff h, if_neg h, k_bs, if_pos rfl, f175_12, e134b k_00 (by decide)]; rfl
/-! How a call of both sides is put together. -/
def k_sV (A : k_A) (W : k_V) : k_A := (A.1, (A.2.1, (A.2.2.1, (W, A.2.2.2.2))))
theorem k_Aok_V {A : k_A} {W : k_V} (h : k_Aok A) (hW : k_Vok A.2.2.1.length W) : k_Aok (k_sV A W) := ⟨h.1, h.2.1, h.2.2.1, hW, h.2.2.2.2⟩
theorem k_CI_V {s t : g_S} {A : k_A} {W : k_V} (hA : k_Aok A) (h : ∀ x, x < 199 → ¬ k_sC x → ¬ (22 ≤ x ∧ x ≤ 48) → t x = s x) (H : k_CI s A) (hW : k_CV t 22 W) : k_CI t (k_sV A W) := by
  obtain ⟨a1, a2, a3, a4, a5, a6⟩ := H
  obtain ⟨_, _, hL, hV, hI, hIV⟩ := hA
  have e0 : t 0 = s 0 := h 0 (by omega) (by unfold k_sC; omega) (by omega)
  have e1 : t 1 = s 1 := h 1 (by omega) (by unfold k_sC; omega) (by omega)
  refine ⟨by rw [e0]; exact a1, fun j hj => by rw [e1]; exact a2 j hj, k_LR_cg (fun x h1 h2 => h x (by omega) (by unfold k_sC; omega) (by omega)) a3, fun l L hl => ?_, hW, fun m V hm => ?_⟩
  · have hl4 := k_lt_of hl
    have hl5 : l < A.2.2.1.length := hl4
    exact k_LR_cg (fun x h1 h2 => h x (by omega) (by unfold k_sC; omega) (by omega)) (a4 l L hl)
  · have hm3 := k_lt_of hm
    rw [List.length_reverse] at hm3
    have hm4 : m < A.2.2.2.2.length := hm3
    have hb := k_Vb (hIV V (List.mem_reverse.1 (List.mem_of_getElem? hm)))
    exact k_CV_cg (a6 m V hm) hb.1 hb.2.1 (fun x h1 h2 => h x (by omega) (by unfold k_sC; omega) (by omega))
/-- a cell of the model's chain -/
def k_ch (x b : Nat) : Prop := (x = 199 ∧ (b = 13 ∨ (26 ≤ b ∧ b ≤ 29) ∨ b = 43 ∨ b = 49 ∨ b = 50)) ∨ (208 ≤ x ∧ x ≤ 237) ∨ (259 ≤ x ∧ x ≤ 267) ∨ (539 ≤ x ∧ x ≤ 559)
theorem k_MI_V {TR : k_TR} {s t : g_S} {A : k_A} {W : k_V} (hA : k_Aok A) (h : ∀ x b, 199 ≤ x → x < 564 → ¬ k_sM x b → ¬ k_ch x b → t x b = s x b) (H : k_MI TR s A) (hW : k_MV t W) : k_MI TR t (k_sV A W) := by
  obtain ⟨a1, a2, a4, a5, a6⟩ := H
  obtain ⟨_, _, hL, hV, hI, hIV⟩ := hA
  have e : ∀ x, 199 < x → (x < 207 ∨ (560 ≤ x ∧ x < 564)) → t x = s x := fun x h0 h1 => funext fun b => h x b (by omega) (by omega) (by unfold k_sM; omega) (by unfold k_ch; omega)
  refine ⟨?_, fun j hj => by rw [e 200 (by omega) (by omega)]; exact a2 j hj, fun l L hl => ?_, hW, fun m V hm => ?_⟩
  · rw [h 199 1 (by omega) (by omega) (by unfold k_sM; omega) (by unfold k_ch; omega), h 199 12 (by omega) (by omega) (by unfold k_sM; omega) (by unfold k_ch; omega), h 199 3 (by omega) (by omega) (by unfold k_sM; omega) (by unfold k_ch; omega), h 199 52 (by omega) (by omega) (by unfold k_sM; omega) (by unfold k_ch; omega)]
    exact a1
  · have hl4 : l < A.2.2.1.length := k_lt_of hl
    rw [e 206 (by omega) (by omega), e (202 + l) (by omega) (by omega)]
    exact a4 l L hl
  · have hm3 := k_lt_of hm
    rw [List.length_reverse] at hm3
    have hm4 : m < A.2.2.2.2.length := hm3
    intro j hj
    rw [e (561 + m) (by omega) (by omega)]
    exact a6 m V hm j hj
/-- what the class's call must come to: r is the answer, or 0 IllegalArgumentException, 1 NoSuchElementException -/
def k_cop (s : g_S) (x : Option ((Int32 ⊕ Nat) × g_S)) (r : Int32 ⊕ Nat) (B : k_A) : Prop := OK x fun w => w.1 = r ∧ k_CI w.2 B ∧ ∀ y, 199 ≤ y → w.2 y = s y
/-- the same of a call that never throws -/
def k_cov (s : g_S) (x : Option (Int32 × g_S)) (v : Int32) (B : k_A) : Prop := OK x fun w => w.1 = v ∧ k_CI w.2 B ∧ ∀ y, 199 ≤ y → w.2 y = s y
def k_mop (TR : k_TR) (cd : Nat → Int32) (s : g_S) (x : Option (Int32 × g_S)) (r : Int32 ⊕ Nat) (B : k_A) : Prop :=
  OK x fun w => k_MI TR w.2 B ∧ (∀ y, y < 199 ∨ y = 564 → w.2 y = s y) ∧ (∀ v, r = .inl v → w.2 199 0 = 0 ∧ w.1 = v) ∧ ∀ e, r = .inr e → w.2 199 0 = cd e
def k_mov (TR : k_TR) (s : g_S) (x : Option (Int32 × g_S)) (v : Int32) (B : k_A) : Prop :=
  OK x fun w => k_MI TR w.2 B ∧ (∀ y, y < 199 ∨ y = 564 → w.2 y = s y) ∧ w.1 = v
def k_In (TR : k_TR) (s : g_S) (A : k_A) : Prop := k_Aok A ∧ k_CI s A ∧ k_MI TR s A
/-- after the call: on to the next, at most one exception made -/
def k_nx (TR : k_TR) (ex : Nat) (x4 : Int32) (w : (Int32 × (g_S × Nat)) ⊕ (Int32 × (g_S × Nat))) : Prop := ∃ B t e, w = .inl (x4 + 7, (t, e)) ∧ k_In TR t B ∧ e ≤ ex + 1
def k_cI (e : Nat) : Int32 := if e = 0 then 1 else 0
def k_cN (e : Nat) : Int32 := if e = 1 then 1 else 0
def k_cB (e : Nat) : Int32 := if e = 1 then 1 else if e = 0 then 2 else 0
theorem k_cmp (v : Int32) : lg_cmp v.toInt64 v.toInt64 = 0 := by
  unfold lg_cmp
  rw [if_neg, if_pos rfl]
  exact Int64.lt_irrefl
theorem glue {TR : k_TR} {s : g_S} {A B : k_A} {ex : Nat} {x4 : Int32} {cd : Nat → Int32} {x : Option ((Int32 ⊕ Nat) × g_S)} {M : g_S → Option (Int32 × g_S)} {r : Int32 ⊕ Nat} {h : Nat → g_S → Option ((Int32 × Nat) × g_S)}
    {K : Int32 → Nat → g_S → Int32 → g_S → Int32 → Option ((Int32 × (g_S × Nat)) ⊕ (Int32 × (g_S × Nat)))}
    (hA : k_In TR s A) (hB : k_Aok B) (hc : k_cop s x r B) (hm : ∀ t, k_MI TR t A → k_mop TR cd t (M t) r B)
    (hr : ∀ e t, r = .inr e → h e t = some ((cd e, 1), t) ∧ cd e ≠ 0)
    (hK : ∀ v n t u w q, K v n t u w q = if q = v then (if v = 0 then (if (lg_cmp ((w 564 0).toInt64) u.toInt64) = 0 then (some (.inl (x4 + 7, (w, ex + n)))) else (some (.inr (0, (w, ex + n))))) else (some (.inl (x4 + 7, (w, ex + n))))) else (some (.inr (0, (w, ex + n))))) :
    OK (g_wd (g_wb x (fun v1 s2 => g_let (g_w s2 564 0 v1) fun s3 => some ((0, 0), s3)) h) fun v2 k4 s3 => g_bd (M s3) fun v5 s6 => (f133 s6).bind fun v7 => K v2 k4 s3 v5 s6 v7) (k_nx TR ex x4) := by
  obtain ⟨⟨w1, t⟩, rfl, h1, h2, h3⟩ := hc
  simp only at h1 h2 h3
  subst h1
  obtain ⟨hA1, hA2, hA3⟩ := hA
  cases w1 with
  | inl v =>
    show OK (g_bd (M (g_w t 564 0 v)) (fun v5 s6 => (f133 s6).bind fun v7 => K 0 0 (g_w t 564 0 v) v5 s6 v7)) _
    have hM : k_MI TR (g_w t 564 0 v) A := k_MI_cg hA1 (fun y b h1 h2 _ => by rw [k_wn (by omega), h3 y h1]) hA3
    obtain ⟨⟨u, t2⟩, e2, g1, g2, g3, g4⟩ := hm _ hM
    simp only at g1 g2 g3 g4
    rw [e2, k_bd]
    obtain ⟨g5, g6⟩ := g3 v rfl
    show OK (K 0 0 _ u t2 (t2 199 0)) _
    rw [hK, if_pos g5, if_pos rfl, g2 564 (Or.inr rfl), k_we, k_ue, g6, k_cmp, if_pos rfl]
    refine ok_some ⟨B, _, _, rfl, ⟨hB, k_CI_cg hB (fun y hy _ => ?_) h2, g1⟩, by omega⟩
    rw [g2 y (Or.inl hy), k_wn (by omega)]
  | inr e =>
    obtain ⟨q1, q2⟩ := hr e t rfl
    show OK (g_wd (h e t) _) _
    rw [q1]
    show OK (g_bd (M t) (fun v5 s6 => (f133 s6).bind fun v7 => K (cd e) 1 t v5 s6 v7)) _
    have hM : k_MI TR t A := k_MI_cg hA1 (fun y b h1 h2 _ => by rw [h3 y h1]) hA3
    obtain ⟨⟨u, t2⟩, e2, g1, g2, g3, g4⟩ := hm _ hM
    simp only at g1 g2 g3 g4
    rw [e2, k_bd]
    show OK (K (cd e) 1 _ u t2 (t2 199 0)) _
    rw [hK, if_pos (g4 e rfl), if_neg q2]
    refine ok_some ⟨B, _, _, rfl, ⟨hB, k_CI_cg hB (fun y hy _ => ?_) h2, g1⟩, by omega⟩
    rw [g2 y (Or.inl hy)]
theorem glue2 {TR : k_TR} {s : g_S} {A B : k_A} {ex : Nat} {x4 : Int32} {x : Option (Int32 × g_S)} {M : g_S → Option (Int32 × g_S)} {v : Int32}
    (hA : k_In TR s A) (hB : k_Aok B) (hc : k_cov s x v B) (hm : ∀ t, k_MI TR t A → k_mov TR t (M t) v B) :
    OK (g_bd x fun v1 s2 => g_bd (M s2) fun v3 s4 => if v1 = v3 then some (Sum.inl (x4 + 7, (s4, ex))) else some (Sum.inr ((0 : Int32), (s4, ex)))) (k_nx TR ex x4) := by
  obtain ⟨⟨w1, t⟩, rfl, h1, h2, h3⟩ := hc
  simp only at h1 h2 h3
  subst h1
  obtain ⟨hA1, hA2, hA3⟩ := hA
  rw [k_bd]
  have hM : k_MI TR t A := k_MI_cg hA1 (fun y b h1 h2 _ => by rw [h3 y h1]) hA3
  obtain ⟨⟨u, t2⟩, e2, g1, g2, g3⟩ := hm _ hM
  simp only at g1 g2 g3
  rw [e2, k_bd, if_pos g3.symm]
  refine ok_some ⟨B, _, _, rfl, ⟨hB, k_CI_cg hB (fun y hy _ => ?_) h2, g1⟩, by omega⟩
  rw [g2 y (Or.inl hy)]
