/-! THE TIE between our machine and the heap: cell k lies at the address base + k. -/
/-- base; the addresses of what lies outside; the array classes; the classes and their slots; the script -/
abbrev j_G : Type := Nat × ((Nat → Nat) × ((Nat → ClassId) × (va_G × m_X)))
/-- (its test is one that nothing computes: a proof should not count to a million) -/
noncomputable def j_ad (G : j_G) (k : Nat) : Nat := @ite Nat (k < 1000000) (Classical.propDecidable _) (G.1 + k) (G.2.1 (k - 1000000))
noncomputable def j_v (G : j_G) (v : Value) : Value := match v with
  | .ref k => .ref (j_ad G k)
  | v => v
noncomputable def j_a (G : j_G) (a : vp_A) : vp_A := match a with
  | (n, .inr (.inr (.inr (.inr f)))) => (n, .inr (.inr (.inr (.inr (fun j => (f j).map (j_ad G))))))
  | a => a
noncomputable def j_c (G : j_G) (c : m_C) : va_E := match c with
  | .inl x => .inl (G.2.2.1 x.1, j_a G x.2)
  | .inr x => .inr (x.1, x.2.map (j_v G))
noncomputable def j_w (G : j_G) (M : m_M) : va_W := (List.range M.2.1).map fun k => (G.1 + k, j_c G (M.1 k))
def j_ty : List FieldType := [.int, .boolean, .long, .array .int, .array .boolean, .object RX4, .object RX3, .object RX6, .object RX0]
def j_tys (G : j_G) : List (ClassId × FieldType) := (List.range 9).map fun t => (G.2.2.1 t, j_ty.getD t .int)
abbrev j_A (G : j_G) : Nat → Prop := fun q => G.1 ≤ q
theorem j_ad_lt {G : j_G} {k : Nat} (h : k < 1000000) : j_ad G k = G.1 + k := if_pos h
theorem j_get {G : j_G} {M : m_M} {k : Nat} (h : k < M.2.1) : (j_w G M)[k]? = some (G.1 + k, j_c G (M.1 k)) := by
  unfold j_w
  rw [List.getElem?_map, List.getElem?_range h]
  rfl
theorem j_get_inv {G : j_G} {M : m_M} {k : Nat} {q : Nat × va_E} (h : (j_w G M)[k]? = some q) : k < M.2.1 ∧ q = (G.1 + k, j_c G (M.1 k)) := by
  have hl : k < (j_w G M).length := (List.getElem?_eq_some_iff.mp h).1
  have hk : k < M.2.1 := by simpa [j_w] using hl
  rw [j_get hk] at h
  exact ⟨hk, (Option.some.inj h).symm⟩
theorem j_len (G : j_G) (M : m_M) : (j_w G M).length = M.2.1 := by simp [j_w]
theorem j_set {G : j_G} {M : m_M} {k : Nat} {c : m_C} (h : k < M.2.1) : (j_w G M).set k (G.1 + k, j_c G c) = j_w G (m_put M k c) := by
  apply List.ext_getElem?
  intro i
  by_cases hi : i < M.2.1
  · have h2 : (j_w G (m_put M k c))[i]? = some (G.1 + i, j_c G ((m_put M k c).1 i)) := j_get (M := m_put M k c) hi
    rw [h2]
    by_cases e : i = k
    · subst e
      rw [List.getElem?_set_self (by rw [j_len]; exact h)]
      simp [m_put]
    · rw [List.getElem?_set_ne (fun z => e z.symm), j_get hi]
      simp [m_put, e]
  · rw [List.getElem?_eq_none (by rw [List.length_set, j_len]; omega), List.getElem?_eq_none (by rw [j_len]; exact Nat.not_lt.mp hi)]
theorem j_push {G : j_G} {M : m_M} {c : m_C} {n : Nat} : j_w G M ++ [(G.1 + M.2.1, j_c G c)] = j_w G (m_add M c n) := by
  apply List.ext_getElem?
  intro i
  by_cases hi : i < M.2.1
  · have h2 : (j_w G (m_add M c n))[i]? = some (G.1 + i, j_c G ((m_add M c n).1 i)) := j_get (M := m_add M c n) (show i < M.2.1 + 1 by omega)
    rw [h2, List.getElem?_append_left (by rw [j_len]; exact hi), j_get hi]
    simp [m_add, Nat.ne_of_lt hi]
  · by_cases e : i = M.2.1
    · subst e
      have h2 : (j_w G (m_add M c n))[M.2.1]? = some (G.1 + M.2.1, j_c G ((m_add M c n).1 M.2.1)) := j_get (M := m_add M c n) (show M.2.1 < M.2.1 + 1 by omega)
      rw [h2, List.getElem?_append_right (by rw [j_len]; omega), j_len]
      simp [m_add]
    · rw [List.getElem?_eq_none (by rw [List.length_append, j_len]; simp; omega), List.getElem?_eq_none (by rw [j_len]; show M.2.1 + 1 ≤ i; omega)]
theorem j_D (G : j_G) (M : m_M) : va_D (j_A G) (j_w G M) := by
  refine ⟨fun i j p q hp hq e => ?_, fun k q hq => ?_⟩
  · obtain ⟨-, rfl⟩ := j_get_inv hp
    obtain ⟨-, rfl⟩ := j_get_inv hq
    simp only at e
    omega
  · obtain ⟨-, rfl⟩ := j_get_inv hq
    exact Nat.le_add_right _ _
theorem j_ty_at (G : j_G) {t : Nat} (h : t < 9) : (j_tys G)[t]? = some (G.2.2.1 t, j_ty.getD t .int) := by
  unfold j_tys
  rw [List.getElem?_map, List.getElem?_range h]
  rfl
/-- the locals -/
noncomputable def j_lv (G : j_G) (v : Value) : Value := match v with
  | .int x => .int x
  | .ref k => .ref (j_ad G k)
  | _ => .null
theorem j_lv_cat (G : j_G) (v : Value) : (j_lv G v).category = 1 := by
  cases v <;> rfl
noncomputable def j_l (G : j_G) : Nat → m_L → List (Nat × Value)
  | _, [] => []
  | i, none :: l => j_l G (i + 1) l
  | i, some v :: l => (i, j_lv G v) :: j_l G (i + 1) l
theorem j_l_mem {G : j_G} : ∀ (l : m_L) (i a : Nat) (w : Value), (a, w) ∈ j_l G i l ↔ ∃ (k : Nat) (v : Value), l[k]? = some (some v) ∧ a = i + k ∧ w = j_lv G v
  | [], i, a, w => by simp [j_l]
  | none :: l, i, a, w => by
    rw [j_l, j_l_mem l (i + 1) a w]
    constructor
    · rintro ⟨k, v, h1, h2, h3⟩
      exact ⟨k + 1, v, by simpa using h1, by omega, h3⟩
    · rintro ⟨k, v, h1, h2, h3⟩
      cases k with
      | zero => simp at h1
      | succ k => exact ⟨k, v, by simpa using h1, by omega, h3⟩
  | some x :: l, i, a, w => by
    rw [j_l, List.mem_cons, j_l_mem l (i + 1) a w]
    constructor
    · rintro (h | ⟨k, v, h1, h2, h3⟩)
      · cases h
        exact ⟨0, x, rfl, rfl, rfl⟩
      · exact ⟨k + 1, v, by simpa using h1, by omega, h3⟩
    · rintro ⟨k, v, h1, h2, h3⟩
      cases k with
      | zero =>
        simp only [List.getElem?_cons_zero, Option.some.injEq] at h1
        subst h1
        subst h3
        left
        rw [h2]
        rfl
      | succ k => exact Or.inr ⟨k, v, by simpa using h1, by omega, h3⟩
def j_LS (G : j_G) (ls : m_L) (nL : Nat) (JL : Array Slot) : Prop := lv_has JL nL (j_l G 0 ls) ∧ ls.length = nL
theorem j_LS.at {G : j_G} {ls : m_L} {nL : Nat} {JL : Array Slot} (h : j_LS G ls nL JL) {i : Nat} {v : Value} (hi : ls[i]? = some (some v)) : JL[i]? = some (.val (j_lv G v)) :=
  h.1.2.2 (i, j_lv G v) ((j_l_mem ls 0 i _).mpr ⟨i, v, hi, (Nat.zero_add i).symm, rfl⟩)
theorem j_LS.set {G : j_G} {ls : m_L} {nL : Nat} {JL JL' : Array Slot} (h : j_LS G ls nL JL) {i : Nat} {v : Value} (hs : lv_has JL' nL ((i, j_lv G v) :: (j_l G 0 ls).filter (fun q => !(q.1 == i) && !(q.1 + 1 == i && q.2.category == 2)))) : j_LS G (ls.set i (some v)) nL JL' := by
  refine ⟨⟨hs.1, hs.2.1, fun q hq => ?_⟩, by rw [List.length_set]; exact h.2⟩
  obtain ⟨a, w⟩ := q
  obtain ⟨k, x, h1, h2, h3⟩ := (j_l_mem _ 0 a w).mp hq
  have e : a = k := by omega
  subst e
  by_cases ei : i = a
  · subst ei
    have hl : i < ls.length := by
      have := (List.getElem?_eq_some_iff.mp h1).1
      simpa using this
    rw [List.getElem?_set_self hl] at h1
    simp only [Option.some.injEq] at h1
    subst h1
    subst h3
    exact hs.2.2 _ List.mem_cons_self
  · rw [List.getElem?_set_ne ei] at h1
    refine hs.2.2 (a, w) (List.mem_cons_of_mem _ (List.mem_filter.mpr ⟨(j_l_mem ls 0 a w).mpr ⟨a, x, h1, h2, h3⟩, ?_⟩))
    have hc : (w.category == 2) = false := by rw [h3, j_lv_cat]; rfl
    simp only [hc, Bool.and_false, Bool.not_false, Bool.and_true, Bool.not_eq_true', beq_eq_false_iff_ne, ne_eq]
    exact fun z => ei z.symm
