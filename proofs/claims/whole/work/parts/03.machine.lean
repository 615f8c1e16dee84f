/-! A SMALL MACHINE of our own: a method is a list of instructions of ours, its cells are numbered from 0 on in the order of their making; a run is a function. Part 05 and on tie it to the bytecode. -/
/-- a cell: an array (its kind, its length and contents; references by the cells' numbers), or an object (its class, its fields) -/
abbrev m_C : Type := (Nat × vp_A) ⊕ (Nat × List Value)
/-- the memory: the cells, how many there are, how many were made in all, how many slots they took -/
abbrev m_M : Type := (Nat → m_C) × (Nat × (Nat × Nat))
abbrev m_L : Type := List (Option Value)
abbrev m_R : Type := (Option Value ⊕ Nat) × m_M
abbrev m_B : Type := Nat → List Value → m_M → Option m_R
abbrev m_N : Type := (Nat × (m_L × (List Value × m_M))) ⊕ m_R
/-- an instruction: which one, two numbers, an int, targets -/
abbrev m_I : Type := Nat × (Nat × (Nat × (Int32 × List (Int32 × Nat))))
/-- the script: its length and contents -/
abbrev m_X : Type := Nat × (Nat → Int32)
def m_put (M : m_M) (k : Nat) (c : m_C) : m_M := (fun j => if j = k then c else M.1 j, M.2)
def m_add (M : m_M) (c : m_C) (n : Nat) : m_M := (fun j => if j = M.2.1 then c else M.1 j, (M.2.1 + 1, (M.2.2.1 + 1, M.2.2.2 + n)))
def m_go (i : Nat) (ls : m_L) (st : List Value) (M : m_M) : Option m_N := some (.inl (i, (ls, (st, M))))
def m_end (v : Option Value ⊕ Nat) (M : m_M) : Option m_N := some (.inr (v, M))
def m_in (j : Int32) (n : Nat) : Bool := decide (¬ (j < 0 ∨ n ≤ j.toNatClampNeg))
def m_isb (x : Int32) : Bool := x == 0 || x == 1
/-- what a field may take: 0 an int, 1 a boolean, else a reference -/
def m_fit (kind : Nat) (v : Value) : Bool := match v with
  | .int x => kind == 0 || (kind == 1 && m_isb x)
  | .ref _ => kind == 2
  | .null => kind == 2
  | _ => false
def m_cond (c : Nat) (x y : Int32) : Bool := match c with
  | 0 => decide (x = y)
  | 1 => decide (¬ x = y)
  | 2 => decide (x < y)
  | 3 => decide (y ≤ x)
  | 4 => decide (y < x)
  | _ => decide (x ≤ y)
def m_bin (o : Nat) (x y : Int32) : Option Int32 := match o with
  | 0 => some (x + y)
  | 1 => some (x - y)
  | 2 => some (x * y)
  | 3 => if y = 0 then none else some (x / y)
  | 4 => if y = 0 then none else some (x - x / y * y)
  | 5 => some (x <<< (y &&& 31))
  | 6 => some (x >>> (y &&& 31))
  | 7 => some (x &&& y)
  | 8 => some (x ||| y)
  | _ => some (x ^^^ y)
def m_cat1 (v : Value) : Bool := match v with
  | .int _ => true
  | .ref _ => true
  | .null => true
  | _ => false
def m_cats (st : List Value) : Nat := (st.map fun v => v.category).sum
/-- numbers of cells that lie outside: 1000000 the script, behind it the texts -/
def m_T0 : Nat := 1000001
def s_const (v : Int32) (i : Nat) (ls : m_L) (st : List Value) (M : m_M) : Option m_N := m_go (i + 1) ls (.int v :: st) M
def s_iload (a i : Nat) (ls : m_L) (st : List Value) (M : m_M) : Option m_N := match ls[a]? with
  | some (some (.int x)) => m_go (i + 1) ls (.int x :: st) M
  | _ => none
def s_aload (a i : Nat) (ls : m_L) (st : List Value) (M : m_M) : Option m_N := match ls[a]? with
  | some (some (.ref x)) => m_go (i + 1) ls (.ref x :: st) M
  | _ => none
def s_istore (a i : Nat) (ls : m_L) (st : List Value) (M : m_M) : Option m_N := match st with
  | .int x :: r => if a < ls.length then m_go (i + 1) (ls.set a (some (.int x))) r M else none
  | _ => none
def s_astore (a i : Nat) (ls : m_L) (st : List Value) (M : m_M) : Option m_N := match st with
  | .ref x :: r => if a < ls.length then m_go (i + 1) (ls.set a (some (.ref x))) r M else none
  | _ => none
def s_iinc (a : Nat) (n : Int32) (i : Nat) (ls : m_L) (st : List Value) (M : m_M) : Option m_N := match ls[a]? with
  | some (some (.int x)) => m_go (i + 1) (ls.set a (some (.int (x + n)))) st M
  | _ => none
def s_getf (ci k i : Nat) (ls : m_L) (st : List Value) (M : m_M) : Option m_N := match st with
  | .ref r :: st => match M.1 r with
    | .inr (c, fs) => if r < M.2.1 ∧ c = ci then match fs[k]? with
      | some v => m_go (i + 1) ls (v :: st) M
      | none => none else none
    | _ => none
  | _ => none
def s_putf (ci k kind i : Nat) (ls : m_L) (st : List Value) (M : m_M) : Option m_N := match st with
  | v :: .ref r :: st => match M.1 r with
    | .inr (c, fs) => if r < M.2.1 ∧ c = ci ∧ k < fs.length ∧ m_fit kind v = true then m_go (i + 1) ls st (m_put M r (.inr (c, fs.set k v))) else none
    | _ => none
  | _ => none
def s_iald (X : m_X) (i : Nat) (ls : m_L) (st : List Value) (M : m_M) : Option m_N := match st with
  | .int j :: .ref r :: st => if r = 1000000 then (if m_in j X.1 = true then m_go (i + 1) ls (.int (X.2 j.toNatClampNeg) :: st) M else none) else match M.1 r with
    | .inl (0, (n, .inl f)) => if r < M.2.1 ∧ m_in j n = true then m_go (i + 1) ls (.int (f j.toNatClampNeg) :: st) M else none
    | _ => none
  | _ => none
def s_bald (i : Nat) (ls : m_L) (st : List Value) (M : m_M) : Option m_N := match st with
  | .int j :: .ref r :: st => match M.1 r with
    | .inl (1, (n, .inl f)) => if r < M.2.1 ∧ m_in j n = true then m_go (i + 1) ls (.int (f j.toNatClampNeg) :: st) M else none
    | _ => none
  | _ => none
def s_lald (i : Nat) (ls : m_L) (st : List Value) (M : m_M) : Option m_N := match st with
  | .int j :: .ref r :: st => match M.1 r with
    | .inl (2, (n, .inr (.inl f))) => if r < M.2.1 ∧ m_in j n = true then m_go (i + 1) ls (.long (f j.toNatClampNeg) :: st) M else none
    | _ => none
  | _ => none
def s_aald (i : Nat) (ls : m_L) (st : List Value) (M : m_M) : Option m_N := match st with
  | .int j :: .ref r :: st => match M.1 r with
    | .inl (t, (n, .inr (.inr (.inr (.inr f))))) => if r < M.2.1 ∧ 3 ≤ t ∧ t < 9 ∧ m_in j n = true then (match f j.toNatClampNeg with
      | some k => m_go (i + 1) ls (.ref k :: st) M
      | none => none) else none
    | _ => none
  | _ => none
def s_iast (i : Nat) (ls : m_L) (st : List Value) (M : m_M) : Option m_N := match st with
  | .int x :: .int j :: .ref r :: st => match M.1 r with
    | .inl (0, (n, .inl f)) => if r < M.2.1 ∧ m_in j n = true then m_go (i + 1) ls st (m_put M r (.inl (0, (n, .inl (upd f j.toNatClampNeg x))))) else none
    | _ => none
  | _ => none
def s_bast (i : Nat) (ls : m_L) (st : List Value) (M : m_M) : Option m_N := match st with
  | .int x :: .int j :: .ref r :: st => match M.1 r with
    | .inl (1, (n, .inl f)) => if r < M.2.1 ∧ m_in j n = true ∧ m_isb x = true then m_go (i + 1) ls st (m_put M r (.inl (1, (n, .inl (upd f j.toNatClampNeg x))))) else none
    | _ => none
  | _ => none
def s_last (i : Nat) (ls : m_L) (st : List Value) (M : m_M) : Option m_N := match st with
  | .long x :: .int j :: .ref r :: st => match M.1 r with
    | .inl (2, (n, .inr (.inl f))) => if r < M.2.1 ∧ m_in j n = true then m_go (i + 1) ls st (m_put M r (.inl (2, (n, .inr (.inl (vp_updL f j.toNatClampNeg x)))))) else none
    | _ => none
  | _ => none
/-- of an array of objects: kind t holds objects of class m_el t -/
def m_el (t : Nat) : Nat := match t with
  | 5 => 4
  | 6 => 3
  | 7 => 6
  | _ => 0
def s_aast (i : Nat) (ls : m_L) (st : List Value) (M : m_M) : Option m_N := match st with
  | .ref v :: .int j :: .ref r :: st => match M.1 r, M.1 v with
    | .inl (t, (n, .inr (.inr (.inr (.inr f))))), .inr (c, _) => if r < M.2.1 ∧ v < M.2.1 ∧ 5 ≤ t ∧ t < 9 ∧ c = m_el t ∧ m_in j n = true then m_go (i + 1) ls st (m_put M r (.inl (t, (n, .inr (.inr (.inr (.inr (va_up f j.toNatClampNeg (some v)))))))))
      else none
    | _, _ => none
  | _ => none
def s_alen (X : m_X) (i : Nat) (ls : m_L) (st : List Value) (M : m_M) : Option m_N := match st with
  | .ref r :: st => if r = 1000000 then m_go (i + 1) ls (.int (Int32.ofNat X.1) :: st) M else match M.1 r with
    | .inl (t, a) => if r < M.2.1 ∧ t < 9 then m_go (i + 1) ls (.int (Int32.ofNat a.1) :: st) M else none
    | _ => none
  | _ => none
def s_bin (o i : Nat) (ls : m_L) (st : List Value) (M : m_M) : Option m_N := match st with
  | .int y :: .int x :: st => match m_bin o x y with
    | some z => m_go (i + 1) ls (.int z :: st) M
    | none => none
  | _ => none
def s_if (c t i : Nat) (ls : m_L) (st : List Value) (M : m_M) : Option m_N := match st with
  | .int x :: st => if m_cond c x 0 = true then m_go t ls st M else m_go (i + 1) ls st M
  | _ => none
def s_cmp (c t i : Nat) (ls : m_L) (st : List Value) (M : m_M) : Option m_N := match st with
  | .int y :: .int x :: st => if m_cond c x y = true then m_go t ls st M else m_go (i + 1) ls st M
  | _ => none
def m_sw (d : Nat) (x : Int32) : List (Int32 × Nat) → Nat
  | [] => d
  | q :: l => if x = q.1 then q.2 else m_sw d x l
def s_switch (d : Nat) (l : List (Int32 × Nat)) (ls : m_L) (st : List Value) (M : m_M) : Option m_N := match st with
  | .int x :: st => m_go (m_sw d x l) ls st M
  | _ => none
def s_dup (i : Nat) (ls : m_L) (st : List Value) (M : m_M) : Option m_N := match st with
  | v :: st => if m_cat1 v = true then m_go (i + 1) ls (v :: v :: st) M else none
  | _ => none
def s_dup2 (i : Nat) (ls : m_L) (st : List Value) (M : m_M) : Option m_N := match st with
  | v :: w :: st => if m_cat1 v = true ∧ m_cat1 w = true then m_go (i + 1) ls (v :: w :: v :: w :: st) M else none
  | _ => none
def s_i2l (i : Nat) (ls : m_L) (st : List Value) (M : m_M) : Option m_N := match st with
  | .int x :: st => m_go (i + 1) ls (.long x.toInt64 :: st) M
  | _ => none
def s_lconst (n i : Nat) (ls : m_L) (st : List Value) (M : m_M) : Option m_N := m_go (i + 1) ls (.long (Int64.ofNat n) :: st) M
def s_lcmp (i : Nat) (ls : m_L) (st : List Value) (M : m_M) : Option m_N := match st with
  | .long y :: .long x :: st => m_go (i + 1) ls (.int (lg_cmp x y) :: st) M
  | _ => none
/-- 0: an int is returned, 1: a boolean -/
def s_iret (kind : Nat) (st : List Value) (M : m_M) : Option m_N := match st with
  | [.int x] => if kind = 0 ∨ m_isb x = true then m_end (.inl (some (.int x))) M else none
  | _ => none
def s_aret (st : List Value) (M : m_M) : Option m_N := match st with
  | [.ref r] => m_end (.inl (some (.ref r))) M
  | _ => none
def s_ret (st : List Value) (M : m_M) : Option m_N := match st with
  | [] => m_end (.inl none) M
  | _ => none
/-- where a call throws e at pc: by the method's own handlers (from, to, what, answer) -/
def m_thr (pc e : Nat) (M : m_M) : List (Nat × (Nat × (Nat × Int32))) → Option m_N
  | [] => m_end (.inr e) M
  | h :: hs => if h.1 ≤ pc ∧ pc < h.2.1 ∧ h.2.2.1 = e then m_end (.inl (some (.int h.2.2.2))) M else m_thr pc e M hs
/-- the receiver is an object of class c - 1 (0: there is none to look at) -/
def m_recv (c : Nat) (As : List Value) (M : m_M) : Bool := match c with
  | 0 => true
  | c + 1 => match As with
    | .ref r :: _ => (match M.1 r with
      | .inr (k, _) => decide (r < M.2.1 ∧ k = c)
      | _ => false)
    | _ => false
def s_call (hs : List (Nat × (Nat × (Nat × Int32)))) (cb : m_B) (pc y na rc i : Nat) (ls : m_L) (st : List Value) (M : m_M) : Option m_N :=
  if na ≤ st.length ∧ m_cats (st.drop na) ≤ 8 ∧ (st.take na).all m_cat1 = true ∧ m_recv rc (st.take na).reverse M = true then
    match cb y (st.take na).reverse M with
    | none => none
    | some (.inl none, M1) => m_go (i + 1) ls (st.drop na) M1
    | some (.inl (some v), M1) => m_go (i + 1) ls (v :: st.drop na) M1
    | some (.inr e, M1) => m_thr pc e M1 hs
  else none
def s_min (i : Nat) (ls : m_L) (st : List Value) (M : m_M) : Option m_N := match st with
  | .int y :: .int x :: st => if m_cats st ≤ 8 then m_go (i + 1) ls (.int (if y < x then y else x) :: st) M else none
  | _ => none
def s_max (i : Nat) (ls : m_L) (st : List Value) (M : m_M) : Option m_N := match st with
  | .int y :: .int x :: st => if m_cats st ≤ 8 then m_go (i + 1) ls (.int (if x < y then y else x) :: st) M else none
  | _ => none
def s_copy (i : Nat) (ls : m_L) (st : List Value) (M : m_M) : Option m_N := match st with
  | .int n :: .int dp :: .ref a :: .int sp :: .ref b :: st => match M.1 b, M.1 a with
    | .inl (0, (n0, .inl f)), .inl (0, (n1, .inl g)) => if b < M.2.1 ∧ a < M.2.1 ∧ m_cats st ≤ 8 ∧ ¬ sp < 0 ∧ ¬ dp < 0 ∧ ¬ n < 0 ∧ sp.toNatClampNeg + n.toNatClampNeg ≤ n0 ∧ dp.toNatClampNeg + n.toNatClampNeg ≤ n1 then
        m_go (i + 1) ls st (m_put M a (.inl (0, (n1, .inl (va_cpy f g sp.toNatClampNeg dp.toNatClampNeg n.toNatClampNeg))))) else none
    | _, _ => none
  | _ => none
def s_slen (tx : List (List Nat)) (i : Nat) (ls : m_L) (st : List Value) (M : m_M) : Option m_N := match st with
  | .ref r :: st => if m_T0 ≤ r ∧ r < m_T0 + tx.length ∧ m_cats st ≤ 8 then m_go (i + 1) ls (.int (nI (tx.getD (r - m_T0) []).length) :: st) M else none
  | _ => none
def s_char (tx : List (List Nat)) (i : Nat) (ls : m_L) (st : List Value) (M : m_M) : Option m_N := match st with
  | .int j :: .ref r :: st => if m_T0 ≤ r ∧ r < m_T0 + tx.length ∧ m_cats st ≤ 8 ∧ m_in j (tx.getD (r - m_T0) []).length = true then m_go (i + 1) ls (.int (nI ((tx.getD (r - m_T0) []).getD j.toNatClampNeg 0)) :: st) M else none
  | _ => none
def s_ldc (k i : Nat) (ls : m_L) (st : List Value) (M : m_M) : Option m_N := m_go (i + 1) ls (.ref (m_T0 + k) :: st) M
def s_throw (e : Nat) (st : List Value) (M : m_M) : Option m_N := if m_cats st ≤ 8 then some (.inr (.inr e, (M.1, (M.2.1, (M.2.2.1 + 1, M.2.2.2 + 6))))) else none
/-- a new object: its class, how many fields, what they hold at first -/
def s_new (ci : Nat) (fs : List Value) (i : Nat) (ls : m_L) (st : List Value) (M : m_M) : Option m_N :=
  if M.2.2.1 = M.2.1 ∧ M.2.1 < 900000 then m_go (i + 1) ls (.ref M.2.1 :: st) (m_add M (.inr (ci, fs)) fs.length) else none
def m_zero (t n : Nat) : m_C := match t with
  | 0 => .inl (0, (n, .inl (fun _ => 0)))
  | 1 => .inl (1, (n, .inl (fun _ => 0)))
  | 2 => .inl (2, (n, .inr (.inl (fun _ => 0))))
  | t => .inl (t, (n, .inr (.inr (.inr (.inr (fun _ => none))))))
def s_newa (t i : Nat) (ls : m_L) (st : List Value) (M : m_M) : Option m_N := match st with
  | .int n :: st => if M.2.2.1 = M.2.1 ∧ M.2.1 < 900000 ∧ t < 9 ∧ ¬ n < 0 ∧ n.toNatClampNeg ≤ 100000 then m_go (i + 1) ls (.ref M.2.1 :: st) (m_add M (m_zero t n.toNatClampNeg) n.toNatClampNeg) else none
  | _ => none
def m_rows (t k : Nat) (M : m_M) : Nat → m_M
  | 0 => M
  | n + 1 => m_add (m_rows t k M n) (m_zero t k) k
/-- rows of kind t, in an outer array of kind t + 3 -/
def s_newg (t i : Nat) (ls : m_L) (st : List Value) (M : m_M) : Option m_N := match st with
  | .int k :: .int n :: st => if M.2.2.1 = M.2.1 ∧ M.2.1 < 900000 ∧ t < 2 ∧ ¬ n < 0 ∧ ¬ k < 0 ∧ n.toNatClampNeg ≤ 1000 ∧ k.toNatClampNeg ≤ 1000 then
      m_go (i + 1) ls (.ref M.2.1 :: st) (m_rows t k.toNatClampNeg (m_add M (.inl (t + 3, (n.toNatClampNeg, .inr (.inr (.inr (.inr (fun j => if j < n.toNatClampNeg then some (M.2.1 + 1 + j) else none))))))) n.toNatClampNeg) n.toNatClampNeg) else none
  | _ => none
def s_pop (i : Nat) (ls : m_L) (st : List Value) (M : m_M) : Option m_N := match st with
  | .ref _ :: st => if m_cats st ≤ 8 then m_go (i + 1) ls st M else none
  | _ => none
/-- what an object of a class holds at first: 0 an int, 1 a reference -/
def m_born (l : List Nat) : List Value := l.map fun k => if k = 0 then .int 0 else .null
/-- one instruction (o, (a, (b, (n, l)))) of a method with handlers hs, at place i, byte pc, with d frames left -/
def m_sem (X : m_X) (tx : List (List Nat)) (bn : List (List Nat)) (hs : List (Nat × (Nat × (Nat × Int32)))) (d : Nat) (cb : m_B) (pc i : Nat) (I : m_I) (ls : m_L) (st : List Value) (M : m_M) : Option m_N :=
  match I with
  | (o, (a, (b, (n, l)))) => match o with
    | 0 => s_const n i ls st M
    | 1 => s_iload a i ls st M
    | 2 => s_aload a i ls st M
    | 3 => s_istore a i ls st M
    | 4 => s_astore a i ls st M
    | 5 => s_iinc a n i ls st M
    | 6 => s_getf a b i ls st M
    | 7 => s_putf a b n.toNatClampNeg i ls st M
    | 8 => s_iald X i ls st M
    | 9 => s_iast i ls st M
    | 10 => s_bald i ls st M
    | 11 => s_bast i ls st M
    | 12 => s_aald i ls st M
    | 13 => s_aast i ls st M
    | 14 => s_lald i ls st M
    | 15 => s_last i ls st M
    | 16 => s_alen X i ls st M
    | 17 => s_bin a i ls st M
    | 18 => s_if a b i ls st M
    | 19 => s_cmp a b i ls st M
    | 20 => m_go b ls st M
    | 21 => s_switch b l ls st M
    | 22 => s_dup i ls st M
    | 23 => s_dup2 i ls st M
    | 24 => s_i2l i ls st M
    | 25 => s_lconst a i ls st M
    | 26 => s_lcmp i ls st M
    | 27 => s_iret a st M
    | 28 => s_aret st M
    | 29 => s_ret st M
    | 30 => s_call hs cb pc a b n.toNatClampNeg i ls st M
    | 31 => if 12 ≤ d then s_min i ls st M else none
    | 32 => if 12 ≤ d then s_max i ls st M else none
    | 33 => if 12 ≤ d then s_copy i ls st M else none
    | 34 => if 12 ≤ d then s_slen tx i ls st M else none
    | 35 => if 12 ≤ d then s_char tx i ls st M else none
    | 36 => if 12 ≤ d then s_throw a st M else none
    | 37 => s_new a (m_born (bn.getD a [])) i ls st M
    | 38 => s_newa a i ls st M
    | 39 => s_newg a i ls st M
    | 40 => if 12 ≤ d then s_pop i ls st M else none
    | 41 => s_ldc a i ls st M
    | _ => none
/-- a method: its instructions with their bytes' places; its handlers; how many locals -/
abbrev m_Md : Type := List (Nat × m_I) × (List (Nat × (Nat × (Nat × Int32))) × Nat)
abbrev m_P : Type := m_X × (List (List Nat) × (List (List Nat) × (Nat → m_Md)))
def m_lin (nL : Nat) (As : List Value) : m_L := As.map some ++ List.replicate (nL - As.length) none
def m_run (P : m_P) : Nat → Nat → Nat → Nat → m_L → List Value → m_M → Option m_R
  | 0, _, _, _, _, _, _ => none
  | n + 1, d, m, i, ls, st, M => match (P.2.2.2 m).1[i]? with
    | none => none
    | some q => match m_sem P.1 P.2.1 P.2.2.1 (P.2.2.2 m).2.1 d (fun y As M => match d with
        | 0 => none
        | d + 1 => if As.length ≤ (P.2.2.2 y).2.2 then m_run P n d y 0 (m_lin (P.2.2.2 y).2.2 As) [] M else none) q.1 i q.2 ls st M with
      | none => none
      | some (.inl (i1, (ls1, (st1, M1)))) => m_run P n d m i1 ls1 st1 M1
      | some (.inr r) => some r
