/-! THE LOOK: each of our instructions is what the bytes at its place say. -/
def m_cnd (c : Nat) : ClassFile.Cond := match c with
  | 0 => .eq
  | 1 => .ne
  | 2 => .lt
  | 3 => .ge
  | 4 => .gt
  | _ => .le
def m_bi (o : Nat) : Instr := match o with
  | 0 => .iadd
  | 1 => .isub
  | 2 => .imul
  | 3 => .idiv
  | 4 => .irem
  | 5 => .ishl
  | 6 => .ishr
  | 7 => .iand
  | 8 => .ior
  | _ => .ixor
/-- the byte where the instruction of place t begins -/
def m_pc (L : List (Nat × m_I)) (t : Nat) : Nat := match L[t]? with
  | some q => q.1
  | none => 0
abbrev m_dc (cd : ByteArray) (pc : Nat) (j : Instr) (n : Nat) : Prop := decode cd pc = .ok (j, n)
/-- .. and the next one lies right behind it -/
abbrev m_d1 (cd : ByteArray) (L : List (Nat × m_I)) (pc i : Nat) (j : Instr) (n : Nat) : Prop := decode cd pc = .ok (j, n) ∧ m_pc L (i + 1) = pc + n
abbrev m_tg (L : List (Nat × m_I)) (t : Nat) : Prop := t < L.length
noncomputable def m_kd (ci k : Nat) : Nat := if ((m_vc ci).2.1 k).2.2.1 = "I" then 0 else if ((m_vc ci).2.1 k).2.2.1 = "Z" then 1 else 2
/-- the words' number that an instruction names -/
def m_ix (l : List (Int32 × Nat)) : Nat := match l with
  | q :: _ => q.2
  | [] => 0
def m_at (t : Nat) : ArrayType := match t with
  | 0 => .int
  | 1 => .boolean
  | _ => .long
/-- how many values a call of method a takes -/
noncomputable def m_np (a : Nat) : Option Nat := (parseMethodDescriptor (m_y a).desc).map fun d => d.parameters.length + (if a ∈ m_stl then 0 else 1)
/-- a throw: new, dup, ldc (or ldc_w), invokespecial, athrow -/
abbrev m_tw (cd : ByteArray) (pc ik is ic w : Nat) : Prop := m_dc cd pc (.new ik) 3 ∧ m_dc cd (pc + 3) .dup 1 ∧
  ((w = 0 ∧ m_dc cd (pc + 4) (.ldc is) 2 ∧ m_dc cd (pc + 6) (.invokespecial ic) 3 ∧ m_dc cd (pc + 9) .athrow 1) ∨ (w = 1 ∧ m_dc cd (pc + 4) (.ldc_w is) 3 ∧ m_dc cd (pc + 7) (.invokespecial ic) 3 ∧ m_dc cd (pc + 10) .athrow 1))
/-- a handler's row (from, to, at, type) and ours (from, to, what, answer) -/
abbrev m_hd (cd : ByteArray) (own : Nat) (q : Nat × Nat × Nat × Nat) (h : Nat × (Nat × (Nat × Int32))) : Prop := q.1 = h.1 ∧ q.2.1 = h.2.1 ∧ own = 9 ∧ ((h.2.2.1 = 0 ∧ q.2.2.2 = 13) ∨ (h.2.2.1 = 1 ∧ q.2.2.2 = 34)) ∧
  ((∃ k : Fin 4, m_dc cd q.2.2.1 (.astore_n k) 1 ∧ k.val < 3 + 1 ∧ m_dc cd (q.2.2.1 + 1) (.iconst h.2.2.2.toInt) 1 ∧ m_dc cd (q.2.2.1 + 2) .ireturn 1) ∨ (∃ k : Fin 16, m_dc cd q.2.2.1 (.astore k.val) 2 ∧ m_dc cd (q.2.2.1 + 2) (.iconst h.2.2.2.toInt) 1 ∧ m_dc cd (q.2.2.1 + 3) .ireturn 1))
/-- the constructors; the methods with handlers (the law's own) -/
def m_ins : List Nat := [0, 9, 16, 22, 28, 43, 75, 77, 132]
def m_nh (a : Nat) : Bool := Nat.ble a 221
noncomputable def m_lk (own : Nat) (cd : ByteArray) (mx : Nat) (rt : Option FieldType) (ini : Bool) (L : List (Nat × m_I)) (pc i : Nat) (I : m_I) : Bool := match I with
  | (o, (a, (b, (n, l)))) => match o with
    | 0 => decide (m_d1 cd L pc i (.iconst n.toInt) 1 ∨ (m_d1 cd L pc i (.bipush n.toInt) 2 ∧ (Int8.ofInt n.toInt).toInt32 = n) ∨ (m_d1 cd L pc i (.sipush n.toInt) 3 ∧ (Int16.ofInt n.toInt).toInt32 = n) ∨ (m_d1 cd L pc i (.ldc a) 2 ∧ (own, (a, n)) ∈ m_kl))
    | 1 => decide (m_d1 cd L pc i (.iload a) 2 ∨ (a < 4 ∧ m_d1 cd L pc i (.iload_n (Fin.ofNat 4 a)) 1))
    | 2 => decide (m_d1 cd L pc i (.aload a) 2 ∨ (a < 4 ∧ m_d1 cd L pc i (.aload_n (Fin.ofNat 4 a)) 1))
    | 3 => decide (m_d1 cd L pc i (.istore a) 2 ∨ (a < 4 ∧ m_d1 cd L pc i (.istore_n (Fin.ofNat 4 a)) 1))
    | 4 => decide (m_d1 cd L pc i (.astore a) 2 ∨ (a < 4 ∧ m_d1 cd L pc i (.astore_n (Fin.ofNat 4 a)) 1))
    | 5 => decide (m_d1 cd L pc i (.iinc a n.toInt) 3)
    | 6 => decide (m_d1 cd L pc i (.getfield (m_ix l)) 3 ∧ m_ifl (own, (m_ix l, (a, b))))
    | 7 => decide (m_d1 cd L pc i (.putfield (m_ix l)) 3 ∧ m_ifl (own, (m_ix l, (a, b))) ∧ n.toNatClampNeg = m_kd a b ∧ (((m_vc a).2.1 b).2.2.2 = false ∨ (ini = true ∧ own = a)))
    | 8 => decide (m_d1 cd L pc i .iaload 1)
    | 9 => decide (m_d1 cd L pc i .iastore 1)
    | 10 => decide (m_d1 cd L pc i .baload 1)
    | 11 => decide (m_d1 cd L pc i .bastore 1)
    | 12 => decide (m_d1 cd L pc i .aaload 1)
    | 13 => decide (m_d1 cd L pc i .aastore 1)
    | 14 => decide (m_d1 cd L pc i .laload 1)
    | 15 => decide (m_d1 cd L pc i .lastore 1)
    | 16 => decide (m_d1 cd L pc i .arraylength 1)
    | 17 => decide (m_d1 cd L pc i (m_bi a) 1)
    | 18 => decide (m_d1 cd L pc i (.ifCond (m_cnd a) ((m_pc L b : Int) - pc)) 3 ∧ m_tg L b)
    | 19 => decide (m_d1 cd L pc i (.if_icmp (m_cnd a) ((m_pc L b : Int) - pc)) 3 ∧ m_tg L b)
    | 20 => decide (m_dc cd pc (.goto ((m_pc L b : Int) - pc)) 3 ∧ m_tg L b)
    | 21 => decide ((a = 0 ∧ m_dc cd pc (.tableswitch ((m_pc L b : Int) - pc) n.toInt (n.toInt + (l.length : Int) - 1) (l.map (fun q => (m_pc L q.2 : Int) - pc)).toArray) (m_pc L (i + 1) - pc) ∧ l.map (fun q => q.1) = (List.range l.length).map (fun j => n + Int32.ofNat j) ∧ 0 ≤ n ∧ n.toInt + (l.length : Int) < 1000) ∨
        (a = 1 ∧ m_dc cd pc (.lookupswitch ((m_pc L b : Int) - pc) (l.map (fun q => (q.1.toInt, (m_pc L q.2 : Int) - pc))).toArray) (m_pc L (i + 1) - pc) ∧ ((l.map (fun q => (q.1.toInt, (m_pc L q.2 : Int) - pc))).zip ((l.map (fun q => (q.1.toInt, (m_pc L q.2 : Int) - pc))).drop 1)).all (fun (a, next) => a.1 < next.1) = true))
    | 22 => decide (m_d1 cd L pc i .dup 1)
    | 23 => decide (m_d1 cd L pc i .dup2 1)
    | 24 => decide (m_d1 cd L pc i .i2l 1)
    | 25 => decide (a < 2 ∧ m_d1 cd L pc i (.lconst (Fin.ofNat 2 a)) 1)
    | 26 => decide (m_d1 cd L pc i .lcmp 1)
    | 27 => decide (m_dc cd pc .ireturn 1 ∧ ((a = 0 ∧ rt = some .int) ∨ (a = 1 ∧ rt = some .boolean)))
    | 28 => decide (m_dc cd pc .areturn 1 ∧ rt = some (.object RX4))
    | 29 => decide (m_dc cd pc .return_ 1 ∧ rt = none)
    | 30 => decide (m_pc L (i + 1) = pc + 3) && decide (m_nps.getD a 0 = b) && (
        (decide (l.map (fun q => q.1) = [0]) && decide (m_dc cd pc (.invokevirtual (m_ix l)) 3) && decide (m_iml (own, (m_ix l, a))) && m_mem a m_inl && m_mem a m_sel && decide (n.toNatClampNeg = m_ows.getD a 0 + 1) && m_nh a && decide (0 < b)) ||
         (decide (l.map (fun q => q.1) = [1]) && decide (m_dc cd pc (.invokestatic (m_ix l)) 3) && decide (m_iml (own, (m_ix l, a))) && m_mem a m_stl && decide (n.toNatClampNeg = 0)) ||
         (decide (l.map (fun q => q.1) = [2]) && decide (m_dc cd pc (.invokespecial (m_ix l)) 3) && decide (m_iml (own, (m_ix l, a))) && m_mem a m_inl && m_mem a m_ins && decide (n.toNatClampNeg = m_ows.getD a 0 + 1) && m_nh a && true && decide (0 < b)) ||
         (decide (l.map (fun q => q.1) = [4]) && decide (m_dc cd pc (.invokestatic (m_ix l)) 3) && decide ((own, (m_ix l, a)) ∈ m_nl) && m_mem a m_stl && decide (n.toNatClampNeg = 0) && m_nh a) ||
         (decide (l.map (fun q => q.1) = [5]) && decide (m_dc cd pc (.invokespecial (m_ix l)) 3) && decide ((own, (m_ix l, a)) ∈ m_nl) && m_mem a m_inl && m_mem a m_ins && decide (n.toNatClampNeg = m_ows.getD a 0 + 1) && m_nh a && true && decide (0 < b)))
    | 31 => decide (m_d1 cd L pc i (.invokestatic (m_ix l)) 3 ∧ (own, (m_ix l, 1)) ∈ m_jl)
    | 32 => decide (m_d1 cd L pc i (.invokestatic (m_ix l)) 3 ∧ (own, (m_ix l, 2)) ∈ m_jl)
    | 33 => decide (m_d1 cd L pc i (.invokestatic (m_ix l)) 3 ∧ (own, (m_ix l, 3)) ∈ m_jl)
    | 34 => decide (m_d1 cd L pc i (.invokevirtual (m_ix l)) 3 ∧ (own, (m_ix l, 4)) ∈ m_jl)
    | 35 => decide (m_d1 cd L pc i (.invokevirtual (m_ix l)) 3 ∧ (own, (m_ix l, 5)) ∈ m_jl)
    | 36 => match l with
      | [w, is, ic] => decide (m_tw cd pc w.2 is.2 ic.2 w.1.toNatClampNeg ∧ (own, (w.2, (is.2, (ic.2, a)))) ∈ m_tl)
      | _ => false
    | 37 => decide (m_d1 cd L pc i (.new (m_ix l)) 3 ∧ (own, (m_ix l, a)) ∈ m_cl ∧ a < 9)
    | 38 => decide (m_pc L (i + 1) = pc + (if a < 3 then 2 else 3) ∧ ((a < 3 ∧ m_dc cd pc (.newarray (m_at a)) 2) ∨ (5 ≤ a ∧ m_dc cd pc (.anewarray (m_ix l)) 3 ∧ (own, (m_ix l, a)) ∈ m_al)))
    | 39 => decide (m_d1 cd L pc i (.multianewarray (m_ix l) 2) 4 ∧ (own, (m_ix l, a + 3)) ∈ m_al)
    | 40 => decide (m_d1 cd L pc i (.invokespecial (m_ix l)) 3 ∧ (own, (m_ix l, 0)) ∈ m_jl)
    | 41 => decide (m_d1 cd L pc i (.ldc b) 2 ∧ (own, (b, a)) ∈ m_sl)
    | _ => true
noncomputable def m_li (own : Nat) (cd : ByteArray) (mx : Nat) (rt : Option FieldType) (ini : Bool) (L : List (Nat × m_I)) : Nat → List (Nat × m_I) → Bool
  | _, [] => true
  | i, q :: r => m_lk own cd mx rt ini L q.1 i q.2 && m_li own cd mx rt ini L (i + 1) r
noncomputable def m_lm (own : Nat) (cd : ByteArray) (mx : Nat) (rt : Option FieldType) (ini : Bool) (hh : List (Nat × Nat × Nat × Nat)) (M : m_Md) : Bool :=
  m_li own cd mx rt ini M.1 0 M.1 && decide (M.2.2 = mx) && decide (hh.length = M.2.1.length) && (hh.zip M.2.1).all (fun q => decide (m_hd cd own q.1 q.2)) && decide (m_pc M.1 0 = 0)
set_option maxRecDepth 100000 in
theorem m_ins_ok : (m_ins.all fun a => decide ((m_y a).name = "<init>") && decide (m_rt a = none)) = true ∧ ((List.range 222).all fun a => decide (m_hh a = [])) = true := by decide +kernel
set_option maxRecDepth 100000 in
theorem m_nps_ok : ((List.range 251).all fun a => decide (m_np a = some (m_nps.getD a 0)) && decide (m_ow a = m_ows.getD a 0)) = true := by decide +kernel
theorem m_li_at {own : Nat} {cd : ByteArray} {mx : Nat} {rt : Option FieldType} {ini : Bool} {L : List (Nat × m_I)} : ∀ (l : List (Nat × m_I)) (i : Nat), m_li own cd mx rt ini L i l = true → ∀ (r : Nat) (q : Nat × m_I), l[r]? = some q → m_lk own cd mx rt ini L q.1 (i + r) q.2 = true
  | [], _, _, r, q, h => by simp at h
  | x :: l, i, h, 0, q, hq => by
    simp only [m_li, Bool.and_eq_true] at h
    simp only [List.getElem?_cons_zero, Option.some.injEq] at hq
    subst hq
    exact h.1
  | x :: l, i, h, r + 1, q, hq => by
    simp only [m_li, Bool.and_eq_true] at h
    rw [List.getElem?_cons_succ] at hq
    have := m_li_at l (i + 1) h.2 r q hq
    rwa [show i + 1 + r = i + (r + 1) by omega] at this
/-- all that the look says of a method -/
def m_good (own : Nat) (cd : ByteArray) (mx : Nat) (rt : Option FieldType) (ini : Bool) (hh : List (Nat × Nat × Nat × Nat)) (M : m_Md) : Prop :=
  (∀ (i : Nat) (q : Nat × m_I), M.1[i]? = some q → m_lk own cd mx rt ini M.1 q.1 i q.2 = true) ∧ M.2.2 = mx ∧ hh.length = M.2.1.length ∧ (hh.zip M.2.1).all (fun q => decide (m_hd cd own q.1 q.2)) = true ∧ m_pc M.1 0 = 0
theorem m_good_of {own : Nat} {cd : ByteArray} {mx : Nat} {rt : Option FieldType} {ini : Bool} {hh : List (Nat × Nat × Nat × Nat)} {M : m_Md} (h : m_lm own cd mx rt ini hh M = true) : m_good own cd mx rt ini hh M := by
  simp only [m_lm, Bool.and_eq_true, decide_eq_true_eq] at h
  obtain ⟨⟨⟨⟨h1, h2⟩, h3⟩, h4⟩, h5⟩ := h
  refine ⟨fun i q hq => ?_, h2, h3, h4, h5⟩
  have := m_li_at M.1 0 h1 i q hq
  rwa [Nat.zero_add] at this
