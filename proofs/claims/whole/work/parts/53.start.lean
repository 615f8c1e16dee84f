/-! THE START (written by wip/whole/gen_53.py): what the constructors make, by a machine on lists that the kernel runs. -/
def h_ini0 : List (List Int32) := [[0, 0, 0, 0, 0, 0, (-1), 0, 0, 0, 0, 0, 0, 0], [], [], [(-1), 0, 0, 0, 0, 0, 0, 0, 0, 0], [], [], [], [], [], [], [], [(-1), 0, 12, 0, 13, 0, 0, 0, 0, 0], [], [(-1), 0, 0, 0, 0, 0, 0, 0, 0, 0], [], [], [], [], [], [], [], [], [0, 1, 100, (-1), 0, (-1), 0, 0, 0], [], [], [0, 0, 0], [], [], [(-1), (-1), (-1), (-1), (-1), 9999, 0, 0], [(-1), (-1), (-1), (-1), (-1), 9999, 0, 0], [(-1), (-1), (-1), (-1), (-1), 9999, 0, 0], [(-1), (-1), (-1), (-1), (-1), 9999, 0, 0], [(-1), (-1), (-1), (-1), (-1), 9999, 0, 0], [(-1), (-1), (-1), (-1), (-1), 9999, 0, 0], [(-1), (-1), (-1), (-1), (-1), 9999, 0, 0], [(-1), (-1), (-1), (-1), (-1), 9999, 0, 0], [(-1), (-1), (-1), (-1), (-1), 9999, 0, 0], [(-1), (-1), (-1), (-1), (-1), 9999, 0, 0], [(-1), (-1), (-1), (-1), (-1), 9999, 0, 0], [(-1), (-1), (-1), (-1), (-1), 9999, 0, 0], [(-1), (-1), (-1), (-1), (-1), 9999, 0, 0], [0, 0, 0], [0, 0, 0], [0, 0, 0], [0, 0, 0], [0, 0, 0], [0, 0, 0], [0, 0, 0], [0, 0, 0], [0, 1, 100, (-1), 0, (-1), 0, 0, 0], [], [], [0, 0, 0], [], [], [(-1), (-1), (-1), (-1), (-1), 9999, 0, 0], [(-1), (-1), (-1), (-1), (-1), 9999, 0, 0], [(-1), (-1), (-1), (-1), (-1), 9999, 0, 0], [(-1), (-1), (-1), (-1), (-1), 9999, 0, 0], [(-1), (-1), (-1), (-1), (-1), 9999, 0, 0], [(-1), (-1), (-1), (-1), (-1), 9999, 0, 0], [(-1), (-1), (-1), (-1), (-1), 9999, 0, 0], [(-1), (-1), (-1), (-1), (-1), 9999, 0, 0], [(-1), (-1), (-1), (-1), (-1), 9999, 0, 0], [(-1), (-1), (-1), (-1), (-1), 9999, 0, 0], [(-1), (-1), (-1), (-1), (-1), 9999, 0, 0], [(-1), (-1), (-1), (-1), (-1), 9999, 0, 0], [(-1), (-1), (-1), (-1), (-1), 9999, 0, 0], [0, 0, 0], [0, 0, 0], [0, 0, 0], [0, 0, 0], [0, 0, 0], [0, 0, 0], [0, 0, 0], [0, 0, 0], [], [0, 0, 0, 0, 0, 0, 0, 0], [], [], [], [], [], [], [], [], [(-1), 0, 0, 0, 0, 0, 0, 0, 0, 0], [], [], [], [], [], [], [], [(-1), 0, 0, 0, 0, 0, 0, 0, 0, 0], [], [], [], [], [], [], [], [(-1), 0, 0, 0, 0, 0, 0, 0, 0, 0], [], [], [], [], [], [], [], [(-1), 0, 0, 0, 0, 0, 0, 0, 0, 0], [], []]
def h_ini1 : List (List Int32) := [[], [], [], [], [], [0, 1, 100, (-1), 0, (-1), 0, 0, 0], [], [], [0, 0, 0], [], [], [(-1), (-1), (-1), (-1), (-1), 9999, 0, 0], [(-1), (-1), (-1), (-1), (-1), 9999, 0, 0], [(-1), (-1), (-1), (-1), (-1), 9999, 0, 0], [(-1), (-1), (-1), (-1), (-1), 9999, 0, 0], [(-1), (-1), (-1), (-1), (-1), 9999, 0, 0], [(-1), (-1), (-1), (-1), (-1), 9999, 0, 0], [(-1), (-1), (-1), (-1), (-1), 9999, 0, 0], [(-1), (-1), (-1), (-1), (-1), 9999, 0, 0], [(-1), (-1), (-1), (-1), (-1), 9999, 0, 0], [(-1), (-1), (-1), (-1), (-1), 9999, 0, 0], [(-1), (-1), (-1), (-1), (-1), 9999, 0, 0], [(-1), (-1), (-1), (-1), (-1), 9999, 0, 0], [(-1), (-1), (-1), (-1), (-1), 9999, 0, 0], [0, 0, 0], [0, 0, 0], [0, 0, 0], [0, 0, 0], [0, 0, 0], [0, 0, 0], [0, 0, 0], [0, 0, 0], [0, 1, 100, (-1), 0, (-1), 0, 0, 0], [], [], [0, 0, 0], [], [], [(-1), (-1), (-1), (-1), (-1), 9999, 0, 0], [(-1), (-1), (-1), (-1), (-1), 9999, 0, 0], [(-1), (-1), (-1), (-1), (-1), 9999, 0, 0], [(-1), (-1), (-1), (-1), (-1), 9999, 0, 0], [(-1), (-1), (-1), (-1), (-1), 9999, 0, 0], [(-1), (-1), (-1), (-1), (-1), 9999, 0, 0], [(-1), (-1), (-1), (-1), (-1), 9999, 0, 0], [(-1), (-1), (-1), (-1), (-1), 9999, 0, 0], [(-1), (-1), (-1), (-1), (-1), 9999, 0, 0], [(-1), (-1), (-1), (-1), (-1), 9999, 0, 0], [(-1), (-1), (-1), (-1), (-1), 9999, 0, 0], [(-1), (-1), (-1), (-1), (-1), 9999, 0, 0], [(-1), (-1), (-1), (-1), (-1), 9999, 0, 0], [0, 0, 0], [0, 0, 0], [0, 0, 0], [0, 0, 0], [0, 0, 0], [0, 0, 0], [0, 0, 0], [0, 0, 0], [0, 1, 100, (-1), 0, (-1), 0, 0, 0], [], [], [0, 0, 0], [], [], [(-1), (-1), (-1), (-1), (-1), 9999, 0, 0], [(-1), (-1), (-1), (-1), (-1), 9999, 0, 0], [(-1), (-1), (-1), (-1), (-1), 9999, 0, 0], [(-1), (-1), (-1), (-1), (-1), 9999, 0, 0], [(-1), (-1), (-1), (-1), (-1), 9999, 0, 0], [(-1), (-1), (-1), (-1), (-1), 9999, 0, 0], [(-1), (-1), (-1), (-1), (-1), 9999, 0, 0], [(-1), (-1), (-1), (-1), (-1), 9999, 0, 0], [(-1), (-1), (-1), (-1), (-1), 9999, 0, 0], [(-1), (-1), (-1), (-1), (-1), 9999, 0, 0], [(-1), (-1), (-1), (-1), (-1), 9999, 0, 0], [(-1), (-1), (-1), (-1), (-1), 9999, 0, 0], [(-1), (-1), (-1), (-1), (-1), 9999, 0, 0], [0, 0, 0], [0, 0, 0], [0, 0, 0], [0, 0, 0], [0, 0, 0], [0, 0, 0], [0, 0, 0], [0, 0, 0], [0, 0, 0, (-1), 0, 0, 0, 0, 0, 0, 0, 0, 0, (-1), 0, 0, 0, 0, 0, 0, 0, 0, 0, 0, 0, 0, 1, 100, (-1), 0, 0, 0, 0, 0, 0, 0, 0, 0, 0, 0, 0, 0, 0, 0, 0, 0, 0, 0, 0, 0, 0, 0, 0, 0], [], [], [], [], [], [], [], [], [], [], [], [], [], [], [], [], [], [], [], [], [], [], [9999, 9999, 9999, 9999, 9999, 9999, 9999, 9999, 9999, 9999, 9999, 9999, 9999], [], [], []]
def h_ini2 : List (List Int32) := [[], [], [], [], [], [], [], [], [], [], [], [], [], [], [], [], [], [], [], [], [], [], [], [], [], [], [], [], [], [], [], [], [], [], [], [], [], [], [], [], [], [], [], [], [], [], [], [], [], [], [], [], [], [], [], [], [], [], [], [], [], [], [], [], [], [], [], [], [], [], [], [], [], [], [], [], [], [], [], [], [], [], [], [], [], [], [], [], [], [], [], [], [], [], [], [], [], [], [], [], [], [], [], [], [], [], [], [], [], [], [], [], []]
def h_ini3 : List (List Int32) := [[], [], [], [], [], [], [], [], [], [], [], [], [], [], [], [], [], [], [], [], [], [], [], [], [], [], [], [], [], [], [], [], [], [], [], [], [], [], [], [], [], [], [], [], [], [], [], [], [], [], [], [], [], [], [], [], [], [], [], [], [], [], [], [], [], [], [], [], [], [], [], [], [], [], [], [], [], [], [], [], [], [], [], [], [], [], [], [], [], [], [], [], [], [], [], [], [], [], [], [], [], [], [], [], [], [], [], [], [], [], [], [], []]
def h_ini4 : List (List Int32) := [[], [], [], [], [], [], [], [], [], [], [], [], [], [], [], [], [], [], [], [], [], [], [], [], [], [], [], [], [], [], [], [], [], [], [], [], [], [], [], [], [], [], [], [], [], [], [], [], [], [], [], [], [], [], [], [], [], [], [], [], [], [], [], [], [], [], [], [], [], [], [], [], [], [], [], [], [], [], [], [], [], [], [], [], [], [], [], [], [], [], [], [], [], [], [], [], [], [], [], [], [], [], [], [], [], [], [], [], [], [], [], [], []]
def h_ini : List (List Int32) := h_ini0 ++ (h_ini1 ++ (h_ini2 ++ (h_ini3 ++ h_ini4)))
/-- the ints at the start -/
def g_S0 : g_S := fun x b => (h_ini.getD x []).getD b 0
abbrev h_C : Type := (Nat × List Value) ⊕ (Nat × (List Int32 ⊕ List (Option Nat)))
abbrev h_H : Type := List h_C × Nat
def h_abs : h_C → m_C
  | .inl (c, fs) => .inr (c, fs)
  | .inr (t, .inl l) => if t = 2 then .inl (2, (l.length, .inr (.inl (fun j => (l.getD j 0).toInt64)))) else .inl (t, (l.length, .inl (fun j => l.getD j 0)))
  | .inr (t, .inr l) => .inl (t, (l.length, .inr (.inr (.inr (.inr (fun j => l.getD j none))))))
theorem h_abs0 (l : List Int32) : h_abs (.inr (0, .inl l)) = .inl (0, (l.length, .inl (fun j => l.getD j 0))) := rfl
theorem h_abs1 (l : List Int32) : h_abs (.inr (1, .inl l)) = .inl (1, (l.length, .inl (fun j => l.getD j 0))) := rfl
theorem h_abs2 (l : List Int32) : h_abs (.inr (2, .inl l)) = .inl (2, (l.length, .inr (.inl (fun j => (l.getD j 0).toInt64)))) := rfl
def h_cell (l : List h_C) (j : Nat) : m_C := match l[j]? with
  | some c => h_abs c
  | none => .inr (0, [])
def h_mem (H : h_H) : m_M := (h_cell H.1, (H.1.length, (H.1.length, H.2)))
def h_add (H : h_H) (c : h_C) (n : Nat) : h_H := (H.1 ++ [c], H.2 + n)
theorem h_mem_add {H : h_H} {c : h_C} {n : Nat} : m_add (h_mem H) (h_abs c) n = h_mem (h_add H c n) := by
  unfold m_add h_mem h_add
  simp only [List.length_append, List.length_singleton, Prod.mk.injEq, and_true]
  funext j
  unfold h_cell
  by_cases h1 : j = H.1.length
  · rw [if_pos h1, h1, List.getElem?_append_right (Nat.le_refl _)]
    simp
  · rw [if_neg h1]
    by_cases h2 : j < H.1.length
    · rw [List.getElem?_append_left h2]
    · rw [List.getElem?_eq_none (by omega), List.getElem?_eq_none (by simp; omega)]
theorem h_mem_put {H : h_H} {x : Nat} {c : h_C} (hx : x < H.1.length) : m_put (h_mem H) x (h_abs c) = h_mem (H.1.set x c, H.2) := by
  unfold m_put h_mem
  simp only [List.length_set, Prod.mk.injEq, and_true]
  funext j
  unfold h_cell
  by_cases h1 : j = x
  · rw [if_pos h1, h1, List.getElem?_set_self hx]
  · rw [if_neg h1, List.getElem?_set_ne (by omega)]
theorem h_mem_at {H : h_H} {x : Nat} {c : h_C} (h : H.1[x]? = some c) : (h_mem H).1 x = h_abs c := by
  show h_cell H.1 x = _
  unfold h_cell
  rw [h]
theorem h_lt {H : h_H} {x : Nat} {c : h_C} (h : H.1[x]? = some c) : x < (h_mem H).2.1 := (List.getElem?_eq_some_iff.mp h).1
def h_zero (t n : Nat) : h_C := if t < 3 then .inr (t, .inl (List.replicate n 0)) else .inr (t, .inr (List.replicate n none))
theorem h_rep {α : Type} (n j : Nat) (a : α) : (List.replicate n a).getD j a = a := by
  rw [List.getD_eq_getElem?_getD, List.getElem?_replicate]
  split <;> rfl
theorem h_zero_ok (t n : Nat) : m_zero t n = h_abs (h_zero t n) := by
  unfold h_zero
  have h1 : (fun j => (List.replicate n (0 : Int32)).getD j 0) = fun _ => 0 := funext fun j => h_rep n j 0
  have h2 : (fun j => ((List.replicate n (0 : Int32)).getD j 0).toInt64) = fun _ => 0 := funext fun j => by
    rw [h_rep]
    rfl
  have h3 : (fun j => (List.replicate n (none : Option Nat)).getD j none) = fun _ => none := funext fun j => h_rep n j none
  match t with
  | 0 =>
    rw [if_pos (by decide)]
    simp only [m_zero, h_abs, h1, List.length_replicate]
    rfl
  | 1 =>
    rw [if_pos (by decide)]
    simp only [m_zero, h_abs, h1, List.length_replicate]
    rfl
  | 2 =>
    rw [if_pos (by decide)]
    simp only [m_zero, h_abs, h2, List.length_replicate]
    rfl
  | t + 3 =>
    rw [if_neg (by omega)]
    simp only [m_zero, h_abs, h3, List.length_replicate]
def h_getf (ci k i : Nat) (ls : m_L) (st : List Value) (H : h_H) : Option (Nat × (m_L × (List Value × h_H))) := match st with
  | .ref r :: st => match H.1[r]? with
    | some (.inl (c, fs)) => if c = ci then match fs[k]? with
      | some v => some (i + 1, (ls, (v :: st, H)))
      | none => none else none
    | _ => none
  | _ => none
def h_putf (ci k kind i : Nat) (ls : m_L) (st : List Value) (H : h_H) : Option (Nat × (m_L × (List Value × h_H))) := match st with
  | v :: .ref r :: st => match H.1[r]? with
    | some (.inl (c, fs)) => if c = ci ∧ k < fs.length ∧ m_fit kind v = true then some (i + 1, (ls, (st, (H.1.set r (.inl (c, fs.set k v)), H.2)))) else none
    | _ => none
  | _ => none
def h_iast (i : Nat) (ls : m_L) (st : List Value) (H : h_H) : Option (Nat × (m_L × (List Value × h_H))) := match st with
  | .int x :: .int j :: .ref r :: st => match H.1[r]? with
    | some (.inr (0, .inl l)) => if m_in j l.length = true ∧ r < 900000 then some (i + 1, (ls, (st, (H.1.set r (.inr (0, .inl (l.set j.toNatClampNeg x))), H.2)))) else none
    | _ => none
  | _ => none
def h_aast (i : Nat) (ls : m_L) (st : List Value) (H : h_H) : Option (Nat × (m_L × (List Value × h_H))) := match st with
  | .ref v :: .int j :: .ref r :: st => match H.1[r]?, H.1[v]? with
    | some (.inr (t, .inr l)), some (.inl (c, _)) => if 5 ≤ t ∧ t < 9 ∧ c = m_el t ∧ m_in j l.length = true then some (i + 1, (ls, (st, (H.1.set r (.inr (t, .inr (l.set j.toNatClampNeg (some v)))), H.2)))) else none
    | _, _ => none
  | _ => none
def h_new (ci : Nat) (fs : List Value) (i : Nat) (ls : m_L) (st : List Value) (H : h_H) : Option (Nat × (m_L × (List Value × h_H))) :=
  if H.1.length < 900000 then some (i + 1, (ls, (.ref H.1.length :: st, h_add H (.inl (ci, fs)) fs.length))) else none
def h_newa (t i : Nat) (ls : m_L) (st : List Value) (H : h_H) : Option (Nat × (m_L × (List Value × h_H))) := match st with
  | .int n :: st => if H.1.length < 900000 ∧ t < 9 ∧ ¬ n < 0 ∧ n.toNatClampNeg ≤ 100000 then some (i + 1, (ls, (.ref H.1.length :: st, h_add H (h_zero t n.toNatClampNeg) n.toNatClampNeg))) else none
  | _ => none
def h_rows (t k : Nat) (H : h_H) : Nat → h_H
  | 0 => H
  | n + 1 => h_add (h_rows t k H n) (h_zero t k) k
def h_newg (t i : Nat) (ls : m_L) (st : List Value) (H : h_H) : Option (Nat × (m_L × (List Value × h_H))) := match st with
  | .int k :: .int n :: st => if H.1.length < 900000 ∧ t < 2 ∧ ¬ n < 0 ∧ ¬ k < 0 ∧ n.toNatClampNeg ≤ 1000 ∧ k.toNatClampNeg ≤ 1000 then
      some (i + 1, (ls, (.ref H.1.length :: st, h_rows t k.toNatClampNeg (h_add H (.inr (t + 3, .inr ((List.range n.toNatClampNeg).map fun j => some (H.1.length + 1 + j)))) n.toNatClampNeg) n.toNatClampNeg))) else none
  | _ => none
theorem h_rows_ok (t k : Nat) (H : h_H) : ∀ n : Nat, m_rows t k (h_mem H) n = h_mem (h_rows t k H n)
  | 0 => rfl
  | n + 1 => by
    unfold m_rows h_rows
    rw [h_rows_ok t k H n, h_zero_ok, h_mem_add]
theorem h_upd (l : List Int32) (j : Nat) (v : Int32) (hj : j < l.length) : upd (fun i => l.getD i 0) j v = fun i => (l.set j v).getD i 0 := by
  funext i
  unfold upd
  simp only [List.getD_eq_getElem?_getD]
  by_cases h : i = j
  · rw [if_pos h, h, List.getElem?_set_self hj]
    rfl
  · rw [if_neg h, List.getElem?_set_ne (by omega)]
theorem h_upo (l : List (Option Nat)) (j : Nat) (v : Option Nat) (hj : j < l.length) : va_up (fun i => l.getD i none) j v = fun i => (l.set j v).getD i none := by
  funext i
  unfold va_up
  simp only [List.getD_eq_getElem?_getD]
  by_cases h : i = j
  · rw [if_pos h, h, List.getElem?_set_self hj]
    rfl
  · rw [if_neg h, List.getElem?_set_ne (by omega)]
theorem h_in {j : Int32} {n : Nat} (h : m_in j n = true) : j.toNatClampNeg < n := g_inlt h
/-- void methods over lists -/
noncomputable def h_run : Nat → Nat → Nat → Nat → m_L → List Value → h_H → Option h_H
  | 0, _, _, _, _, _, _ => none
  | n + 1, d, m, i, ls, st, H => match (m_md m).1[i]? with
    | none => none
    | some (pc, (o, (a, (b, (c, l))))) => match o with
      | 29 => match st with
        | [] => some H
        | _ => none
      | 18 => match st with
        | .int x :: st => h_run n d m (if m_cond a x 0 = true then b else i + 1) ls st H
        | _ => none
      | 19 => match st with
        | .int y :: .int x :: st => h_run n d m (if m_cond a x y = true then b else i + 1) ls st H
        | _ => none
      | 40 => match st with
        | .ref _ :: st => if m_cats st ≤ 8 ∧ 12 ≤ d then h_run n d m (i + 1) ls st H else none
        | _ => none
      | 30 => match d with
        | 0 => none
        | d + 1 => if b ≤ st.length ∧ m_cats (st.drop b) ≤ 8 ∧ (st.take b).all m_cat1 = true ∧ m_recv c.toNatClampNeg (st.take b).reverse (h_mem H) = true ∧ (st.take b).reverse.length ≤ (m_md a).2.2 then
            match h_run n d a 0 (m_lin (m_md a).2.2 (st.take b).reverse) [] H with
            | none => none
            | some H1 => h_run n (d + 1) m (i + 1) ls (st.drop b) H1
          else none
      | 6 => match h_getf a b i ls st H with
        | none => none
        | some (i1, (ls1, (st1, H1))) => h_run n d m i1 ls1 st1 H1
      | 7 => match h_putf a b c.toNatClampNeg i ls st H with
        | none => none
        | some (i1, (ls1, (st1, H1))) => h_run n d m i1 ls1 st1 H1
      | 9 => match h_iast i ls st H with
        | none => none
        | some (i1, (ls1, (st1, H1))) => h_run n d m i1 ls1 st1 H1
      | 13 => match h_aast i ls st H with
        | none => none
        | some (i1, (ls1, (st1, H1))) => h_run n d m i1 ls1 st1 H1
      | 37 => match h_new a (m_born (m_born9.getD a [])) i ls st H with
        | none => none
        | some (i1, (ls1, (st1, H1))) => h_run n d m i1 ls1 st1 H1
      | 38 => match h_newa a i ls st H with
        | none => none
        | some (i1, (ls1, (st1, H1))) => h_run n d m i1 ls1 st1 H1
      | 39 => match h_newg a i ls st H with
        | none => none
        | some (i1, (ls1, (st1, H1))) => h_run n d m i1 ls1 st1 H1
      | _ => match g_pl1 (o, (a, (b, (c, l)))) i ls st with
        | none => none
        | some (i1, (ls1, st1)) => h_run n d m i1 ls1 st1 H
section HA
variable {X : m_X} {d m i pc : Nat} {ls : m_L} {st : List Value} {H : h_H} {r : m_R} {c : Int32} {l : List (Int32 × Nat)} {a b : Nat} {w : Nat × (m_L × (List Value × h_H))}
theorem hn_getf (hq : (m_md m).1[i]? = some (pc, (6, (a, (b, (c, l)))))) (h : h_getf a b i ls st H = some w) (k : n_R X d m w.1 w.2.1 w.2.2.1 (h_mem w.2.2.2) r) : n_R X d m i ls st (h_mem H) r := by
  unfold h_getf at h
  split at h
  · split at h
    · rename_i hr
      split at h
      · rename_i hc
        subst hc
        split at h
        · rename_i hv
          cases h
          exact n_getf hq (h_mem_at hr) (h_lt hr) hv k
        · cases h
      · cases h
    · cases h
  · cases h
theorem hn_putf (hq : (m_md m).1[i]? = some (pc, (7, (a, (b, (c, l)))))) (h : h_putf a b c.toNatClampNeg i ls st H = some w) (k : n_R X d m w.1 w.2.1 w.2.2.1 (h_mem w.2.2.2) r) : n_R X d m i ls st (h_mem H) r := by
  unfold h_putf at h
  split at h
  · split at h
    · rename_i c1 fs1 hr
      split at h
      · rename_i hc
        obtain ⟨hc, hl, hf⟩ := hc
        subst hc
        cases h
        refine n_putf hq (h_mem_at hr) (h_lt hr) hl hf ?_
        rw [← h_mem_put (h_lt hr)] at k
        exact k
      · cases h
    · cases h
  · cases h
theorem hn_iast (hq : (m_md m).1[i]? = some (pc, (9, (a, (b, (c, l)))))) (h : h_iast i ls st H = some w) (k : n_R X d m w.1 w.2.1 w.2.2.1 (h_mem w.2.2.2) r) : n_R X d m i ls st (h_mem H) r := by
  unfold h_iast at h
  split at h
  · split at h
    · rename_i l1 hr
      split at h
      · rename_i hc
        cases h
        have hM := h_mem_at hr
        have e := h_abs0
        refine n_iast hq (c := l1.length) (f := fun j => l1.getD j 0) (hM.trans (e l1)) (h_lt hr) hc.1 ?_
        rw [← h_mem_put (h_lt hr)] at k
        rw [h_upd _ _ _ (h_in hc.1)]
        rw [e, List.length_set] at k
        exact k
      · cases h
    · cases h
  · cases h
theorem hn_aast (hq : (m_md m).1[i]? = some (pc, (13, (a, (b, (c, l)))))) (h : h_aast i ls st H = some w) (k : n_R X d m w.1 w.2.1 w.2.2.1 (h_mem w.2.2.2) r) : n_R X d m i ls st (h_mem H) r := by
  unfold h_aast at h
  split at h
  · split at h
    · rename_i t1 l1 c1 fs1 hr hv
      split at h
      · rename_i hc
        obtain ⟨h5, h9, hm, hj⟩ := hc
        subst hm
        cases h
        refine n_aast hq (h_mem_at hr) (h_mem_at hv) (h_lt hr) (h_lt hv) h5 h9 hj ?_
        rw [← h_mem_put (h_lt hr)] at k
        rw [h_upo _ _ _ (h_in hj)]
        have e : ∀ j v, h_abs (.inr (t1, .inr (l1.set j v))) = .inl (t1, (l1.length, .inr (.inr (.inr (.inr (fun i => (l1.set j v).getD i none)))))) := fun j v => by
          show (Sum.inl (t1, ((l1.set j v).length, _)) : m_C) = _
          rw [List.length_set]
        rw [e] at k
        exact k
      · cases h
    · cases h
  · cases h
theorem hn_new (hq : (m_md m).1[i]? = some (pc, (37, (a, (b, (c, l)))))) (h : h_new a (m_born (m_born9.getD a [])) i ls st H = some w) (k : n_R X d m w.1 w.2.1 w.2.2.1 (h_mem w.2.2.2) r) : n_R X d m i ls st (h_mem H) r := by
  unfold h_new at h
  split at h
  · rename_i hc
    cases h
    refine n_new hq rfl hc ?_
    rw [← h_mem_add] at k
    exact k
  · cases h
theorem hn_newa (hq : (m_md m).1[i]? = some (pc, (38, (a, (b, (c, l)))))) (h : h_newa a i ls st H = some w) (k : n_R X d m w.1 w.2.1 w.2.2.1 (h_mem w.2.2.2) r) : n_R X d m i ls st (h_mem H) r := by
  unfold h_newa at h
  split at h
  · split at h
    · rename_i hc
      obtain ⟨hc, ht, h0, h1⟩ := hc
      cases h
      refine n_newa hq rfl hc ht h0 h1 ?_
      rw [← h_mem_add, ← h_zero_ok] at k
      exact k
    · cases h
  · cases h
theorem hn_newg (hq : (m_md m).1[i]? = some (pc, (39, (a, (b, (c, l)))))) (h : h_newg a i ls st H = some w) (k : n_R X d m w.1 w.2.1 w.2.2.1 (h_mem w.2.2.2) r) : n_R X d m i ls st (h_mem H) r := by
  unfold h_newg at h
  split at h
  · rename_i k1 n1 st1
    split at h
    · rename_i hc
      obtain ⟨hc, ht, h0, h1, h2, h3⟩ := hc
      cases h
      refine n_go hq (i1 := i + 1) (ls1 := ls) (st1 := .ref (h_mem H).2.1 :: st1) (M1 := m_rows a k1.toNatClampNeg (m_add (h_mem H) (.inl (a + 3, (n1.toNatClampNeg, .inr (.inr (.inr (.inr (fun j => if j < n1.toNatClampNeg then some ((h_mem H).2.1 + 1 + j) else none))))))) n1.toNatClampNeg) n1.toNatClampNeg) (fun cb => ?_) ?_
      · show s_newg a i ls (.int k1 :: .int n1 :: st1) (h_mem H) = _
        unfold s_newg m_go
        simp only
        rw [if_pos ⟨rfl, hc, ht, h0, h1, h2, h3⟩]
      · rw [← h_rows_ok, ← h_mem_add] at k
        have e : h_abs (.inr (a + 3, .inr ((List.range n1.toNatClampNeg).map fun j => some (H.1.length + 1 + j)))) = .inl (a + 3, (n1.toNatClampNeg, .inr (.inr (.inr (.inr (fun j => if j < n1.toNatClampNeg then some ((h_mem H).2.1 + 1 + j) else none)))))) := by
          show (Sum.inl (a + 3, (_, _)) : m_C) = _
          rw [List.length_map, List.length_range]
          have f : (fun j => ((List.range n1.toNatClampNeg).map fun j => some (H.1.length + 1 + j)).getD j none) = fun j => if j < n1.toNatClampNeg then some ((h_mem H).2.1 + 1 + j) else none := by
            funext j
            rw [List.getD_eq_getElem?_getD]
            by_cases hj : j < n1.toNatClampNeg
            · rw [if_pos hj]
              simp [hj]
              rfl
            · rw [if_neg hj, List.getElem?_eq_none (by simp; omega)]
              rfl
          rw [f]
        rw [e] at k
        exact k
    · cases h
  · cases h
end HA
theorem h_run_ok {X : m_X} : ∀ (n d m i : Nat) (ls : m_L) (st : List Value) (H H1 : h_H), h_run n d m i ls st H = some H1 → n_R X d m i ls st (h_mem H) (.inl none, h_mem H1)
  | 0, _, _, _, _, _, _, _, h => by cases h
  | n + 1, d, m, i, ls, st, H, H1, h => by
    have ih := h_run_ok (X := X) n
    unfold h_run at h
    split at h
    · cases h
    · rename_i pc o a b c l hq
      split at h
      · split at h
        · cases h
          exact n_end hq (fun _ => rfl)
        · cases h
      · split at h
        · exact n_if hq (ih _ _ _ _ _ _ _ h)
        · cases h
      · split at h
        · exact n_cmp hq (ih _ _ _ _ _ _ _ h)
        · cases h
      · split at h
        · split at h
          · rename_i hc
            exact n_pop hq hc.2 hc.1 (ih _ _ _ _ _ _ _ h)
          · cases h
        · cases h
      · split at h
        · cases h
        · split at h
          · rename_i hc
            obtain ⟨h1, h2, h3, h4, h5⟩ := hc
            split at h
            · cases h
            · rename_i H2 hr
              refine n_call hq (As := (st.take b).reverse) (rest := st.drop b) ?_ ?_ h2 ?_ h4 ⟨h5, ih _ _ _ _ _ _ _ hr⟩ (ih _ _ _ _ _ _ _ h)
              · rw [List.reverse_reverse, List.take_append_drop]
              · rw [List.length_reverse, List.length_take]
                omega
              · rw [List.all_reverse]
                exact h3
          · cases h
      · split at h
        · cases h
        · rename_i hw
          exact hn_getf hq hw (ih _ _ _ _ _ _ _ h)
      · split at h
        · cases h
        · rename_i hw
          exact hn_putf hq hw (ih _ _ _ _ _ _ _ h)
      · split at h
        · cases h
        · rename_i hw
          exact hn_iast hq hw (ih _ _ _ _ _ _ _ h)
      · split at h
        · cases h
        · rename_i hw
          exact hn_aast hq hw (ih _ _ _ _ _ _ _ h)
      · split at h
        · cases h
        · rename_i hw
          exact hn_new hq hw (ih _ _ _ _ _ _ _ h)
      · split at h
        · cases h
        · rename_i hw
          exact hn_newa hq hw (ih _ _ _ _ _ _ _ h)
      · split at h
        · cases h
        · rename_i hw
          exact hn_newg hq hw (ih _ _ _ _ _ _ _ h)
      · split at h
        · cases h
        · rename_i hw
          exact n_go hq (fun _ => g_pl1_ok hw) (ih _ _ _ _ _ _ _ h)
/-- is a cell as the layout and the ints say? -/
def h_eqv : Value → Nat → Int32 → Bool
  | .int x, 0, y => x == y
  | .ref r, 1, y => r == y.toNatClampNeg
  | .ref r, c + 2, _ => r == c
  | _, _, _ => false
def h_eqf : List Value → List Nat → List Int32 → Bool
  | [], [], [] => true
  | v :: vs, c :: cs, y :: ys => h_eqv v c y && h_eqf vs cs ys
  | _, _, _ => false
def h_eql (l : List Int32) (n : Nat) (ys : List Int32) : Bool := l.length == n && ((ys == [] && l.all (fun x => x == 0)) || ys == l)
def h_eqc : h_C → g_L → List Int32 → Bool
  | .inl (c, fs), (0, (c1, cs)), ys => c == c1 && h_eqf fs cs ys
  | .inr (0, .inl l), (1, (n, _)), ys => h_eql l n ys
  | .inr (1, .inl l), (2, (n, _)), ys => h_eql l n ys
  | .inr (2, .inl l), (3, (n, _)), ys => h_eql l n ys
  | .inr (t, .inr l), (t1 + 4, (n, es)), _ => t == t1 + 3 && (l.length == n && l == es.map some)
  | _, _, _ => false
theorem h_eqf_ok (f : Nat → Int32) : ∀ (fs : List Value) (cs : List Nat) (ys : List Int32) (a : Nat), (∀ b, f (a + b) = ys.getD b 0) → h_eqf fs cs ys = true → fs = g_fs f a cs
  | [], [], [], a, hf, h => rfl
  | v :: vs, c :: cs, y :: ys, a, hf, h => by
    unfold h_eqf at h
    rw [Bool.and_eq_true] at h
    have ih := h_eqf_ok f vs cs ys (a + 1) (fun b => by
      have := hf (b + 1)
      rw [show a + (b + 1) = a + 1 + b from by omega] at this
      rw [this]
      rfl) h.2
    have h0 : f a = y := hf 0
    have h1 := h.1
    unfold h_eqv at h1
    split at h1
    · rw [g_fs, ← ih, h0, eq_of_beq h1]
    · rw [g_fs, ← ih, h0, eq_of_beq h1]
    · rw [g_fs, ← ih, eq_of_beq h1]
    · cases h1
  | [], [], _ :: _, _, _, h => by cases h
  | [], _ :: _, _, _, _, h => by cases h
  | _ :: _, [], _, _, _, h => by cases h
  | _ :: _, _ :: _, [], _, _, h => by cases h
theorem h_eql_ok {l : List Int32} {n : Nat} {ys : List Int32} (h : h_eql l n ys = true) : l.length = n ∧ (fun j => l.getD j 0) = fun b => ys.getD b 0 := by
  unfold h_eql at h
  rw [Bool.and_eq_true, Bool.or_eq_true, Bool.and_eq_true] at h
  refine ⟨eq_of_beq h.1, ?_⟩
  rcases h.2 with ⟨h1, h2⟩ | h1
  · rw [eq_of_beq h1]
    funext j
    rw [List.getD_eq_getElem?_getD]
    by_cases hj : j < l.length
    · rw [List.getElem?_eq_getElem hj]
      have := (List.all_eq_true.mp h2) l[j] (List.getElem_mem hj)
      simpa using this
    · rw [List.getElem?_eq_none (by omega)]
      rfl
  · rw [eq_of_beq h1]
theorem h_eqc_ok {c : h_C} {L : g_L} {ys : List Int32} (h : h_eqc c L ys = true) : h_abs c = g_cell (fun b => ys.getD b 0) L := by
  unfold h_eqc at h
  split at h
  · rename_i c1 fs c2 cs
    rw [Bool.and_eq_true] at h
    have h1 := eq_of_beq h.1
    subst h1
    show (Sum.inr (c1, fs) : m_C) = Sum.inr (c1, g_fs _ 0 cs)
    rw [h_eqf_ok (fun b => ys.getD b 0) fs cs ys 0 (fun b => by rw [Nat.zero_add]) h.2]
  · rename_i l n es
    obtain ⟨h1, h2⟩ := h_eql_ok h
    subst h1
    rw [h_abs0, h2]
    rfl
  · rename_i l n es
    obtain ⟨h1, h2⟩ := h_eql_ok h
    subst h1
    rw [h_abs1, h2]
    rfl
  · rename_i l n es
    obtain ⟨h1, h2⟩ := h_eql_ok h
    subst h1
    show h_abs (.inr (2, .inl l)) = Sum.inl (2, (l.length, .inr (.inl (fun j => (ys.getD j 0).toInt64))))
    rw [h_abs2]
    have h3 : (fun j => (l.getD j 0).toInt64) = fun j => (ys.getD j 0).toInt64 := funext fun j => congrArg Int32.toInt64 (congrFun h2 j)
    rw [h3]
  · rename_i t l t1 n es
    rw [Bool.and_eq_true, Bool.and_eq_true] at h
    have h1 := eq_of_beq h.1
    have h2 := eq_of_beq h.2.1
    have h3 := eq_of_beq h.2.2
    subst h1 h2
    show (Sum.inl (t1 + 3, (l.length, .inr (.inr (.inr (.inr (fun j => l.getD j none)))))) : m_C) = Sum.inl (t1 + 3, (l.length, .inr (.inr (.inr (.inr (fun j => es[j]?))))))
    have h4 : (fun j => l.getD j none) = fun j => es[j]? := by
      funext j
      rw [h3, List.getD_eq_getElem?_getD, List.getElem?_map]
      cases es[j]? <;> rfl
    rw [h4]
  · cases h
def h_eqa : List h_C → List g_L → List (List Int32) → Bool
  | [], [], [] => true
  | c :: cs, L :: Ls, y :: ys => h_eqc c L y && h_eqa cs Ls ys
  | _, _, _ => false
theorem h_eqa_ok : ∀ (cs : List h_C) (Ls : List g_L) (ys : List (List Int32)), h_eqa cs Ls ys = true → ∀ j, h_cell cs j = g_cell (fun b => (ys.getD j []).getD b 0) (Ls.getD j (0, (0, [])))
  | [], [], [], h, j => rfl
  | c :: cs, L :: Ls, y :: ys, h, 0 => by
    unfold h_eqa at h
    rw [Bool.and_eq_true] at h
    exact h_eqc_ok h.1
  | c :: cs, L :: Ls, y :: ys, h, j + 1 => by
    unfold h_eqa at h
    rw [Bool.and_eq_true] at h
    exact h_eqa_ok cs Ls ys h.2 j
  | [], [], _ :: _, h, _ => by cases h
  | [], _ :: _, _, h, _ => by cases h
  | _ :: _, [], _, h, _ => by cases h
  | _ :: _, _ :: _, [], h, _ => by cases h
def h_H1 : h_H := h_add ([], 0) (.inl (7, m_born (m_born9.getD 7 []))) (m_born (m_born9.getD 7 [])).length
noncomputable def h_ok : Bool := match h_run 6000 2047 77 0 (m_lin 2 [.ref 0]) [] h_H1 with
  | none => false
  | some H1 => H1.1.length == 199 && match h_run 6000 2047 132 0 (m_lin 2 [.ref 199]) [] (h_add H1 (.inl (8, m_born (m_born9.getD 8 []))) (m_born (m_born9.getD 8 [])).length) with
    | none => false
    | some H2 => H2.1.length == 564 && (H2.2 + 1 == 16542 && h_eqa (h_add H2 (h_zero 2 1) 1).1 g_tab h_ini)
set_option maxRecDepth 100000 in
theorem h_ok_true : h_ok = true := by decide +kernel
theorem h_start : ∃ H1 H2 : h_H, h_run 6000 2047 77 0 (m_lin 2 [.ref 0]) [] h_H1 = some H1 ∧ H1.1.length = 199 ∧ h_run 6000 2047 132 0 (m_lin 2 [.ref 199]) [] (h_add H1 (.inl (8, m_born (m_born9.getD 8 []))) (m_born (m_born9.getD 8 [])).length) = some H2 ∧ H2.1.length = 564 ∧ h_mem (h_add H2 (h_zero 2 1) 1) = g_M g_S0 0 := by
  have h := h_ok_true
  unfold h_ok at h
  split at h
  · cases h
  · rename_i H1 e1
    rw [Bool.and_eq_true] at h
    obtain ⟨h1, h⟩ := h
    split at h
    · cases h
    · rename_i H2 e2
      rw [Bool.and_eq_true, Bool.and_eq_true] at h
      obtain ⟨h2, h3, h4⟩ := h
      refine ⟨H1, H2, e1, eq_of_beq h1, e2, eq_of_beq h2, ?_⟩
      have hl : (h_add H2 (h_zero 2 1) 1).1.length = 565 := by
        unfold h_add
        simp only [List.length_append, List.length_singleton]
        rw [eq_of_beq h2]
      have hs : (h_add H2 (h_zero 2 1) 1).2 = 16542 := eq_of_beq h3
      unfold h_mem g_M
      rw [hl, hs]
      have hf : h_cell (h_add H2 (h_zero 2 1) 1).1 = g_mem g_S0 := funext fun j => h_eqa_ok _ _ _ h4 j
      rw [hf]
/-- from the start to the loop's head -/
theorem h_begin {X : m_X} {r : m_R} (k : n_R X 2048 251 13 [some (.ref 1000000), some (.ref 0), some (.ref 199), some (.ref 564), some (.int 0), none, none] [] (g_M g_S0 0) r) : n_R X 2048 251 0 (m_lin 7 [.ref 1000000]) [] m_M0 r := by
  obtain ⟨H1, H2, e1, h1, e2, h2, h3⟩ := h_start
  have eM : m_M0 = h_mem ([], 0) := rfl
  rw [eM]
  refine hn_new (w := (1, (m_lin 7 [.ref 1000000], ([.ref 0], h_H1)))) (n_q md_251 rfl) rfl ?_
  refine n_go (n_q md_251 rfl) (fun _ => rfl) ?_
  refine n_call (n_q md_251 rfl) (As := [.ref 0]) (rest := [.ref 0]) rfl rfl (Nat.le_of_ble_eq_true rfl) rfl rfl ⟨Nat.le_of_ble_eq_true rfl, h_run_ok _ _ _ _ _ _ _ _ e1⟩ ?_
  refine n_go (n_q md_251 rfl) (fun _ => rfl) ?_
  refine hn_new (w := (5, ([some (.ref 1000000), some (.ref 0), none, none, none, none, none], ([.ref 199], h_add H1 (.inl (8, m_born (m_born9.getD 8 []))) (m_born (m_born9.getD 8 [])).length)))) (n_q md_251 rfl) ?_ ?_
  · unfold h_new
    rw [h1]
    rfl
  refine n_go (n_q md_251 rfl) (fun _ => rfl) ?_
  have hr : m_recv 9 [.ref 199] (h_mem (h_add H1 (.inl (8, m_born (m_born9.getD 8 []))) (m_born (m_born9.getD 8 [])).length)) = true := by
    have hg : (h_add H1 (.inl (8, m_born (m_born9.getD 8 []))) (m_born (m_born9.getD 8 [])).length).1[199]? = some (.inl (8, m_born (m_born9.getD 8 []))) := by
      unfold h_add
      simp only
      rw [List.getElem?_append_right (by omega), h1]
      rfl
    have hm := h_mem_at hg
    have hl := h_lt hg
    unfold m_recv
    simp only [hm]
    exact decide_eq_true ⟨hl, rfl⟩
  refine n_call (n_q md_251 rfl) (As := [.ref 199]) (rest := [.ref 199]) rfl rfl (Nat.le_of_ble_eq_true rfl) rfl hr ⟨Nat.le_of_ble_eq_true rfl, h_run_ok _ _ _ _ _ _ _ _ e2⟩ ?_
  refine n_go (n_q md_251 rfl) (fun _ => rfl) ?_
  refine n_go (n_q md_251 rfl) (fun _ => rfl) ?_
  refine hn_newa (w := (10, ([some (.ref 1000000), some (.ref 0), some (.ref 199), none, none, none, none], ([.ref 564], h_add H2 (h_zero 2 1) 1)))) (n_q md_251 rfl) ?_ ?_
  · unfold h_newa
    rw [h2]
    rfl
  rw [h3]
  refine n_go (n_q md_251 rfl) (fun _ => rfl) ?_
  refine n_go (n_q md_251 rfl) (fun _ => rfl) ?_
  refine n_go (n_q md_251 rfl) (fun _ => rfl) ?_
  exact k
/-- the claim out of the functions -/
theorem h_pure {X : m_X} {z : g_S × Nat} (h : f251L X 0 g_S0 0 = some (1, z)) : ∃ n M1, m_run (m_prog X) n 2048 251 0 (m_lin 7 [.ref 1000000]) [] m_M0 = some (.inl (some (.int 1)), M1) ∧ M1.2.2.1 = 565 + z.2 ∧ M1.2.2.2 = 16542 + 6 * z.2 := by
  obtain ⟨n, hn⟩ := h_begin (r := g_rL (1, z)) (P251L h (by decide))
  exact ⟨n, _, hn, rfl, rfl⟩
