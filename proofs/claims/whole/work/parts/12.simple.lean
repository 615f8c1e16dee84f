/-! SIMPLE INSTRUCTIONS: from a place of our machine to the next, over the bytecode. -/
/-- what holds all through a method's body -/
def j_F (p : Program) (l : Launch) (s : State) (mid : MethodId) (args : Array Value) (meth : Method) (c : Code) (own : Nat) (cd : ByteArray) (mx : Nat) (rt : Option FieldType) (ini : Bool) (hh : List (Nat × Nat × Nat × Nat)) : Prop :=
  p.tables.exec = Jvm.exec ∧ c.code = cd ∧ c.maxLocals = mx ∧ s.vm.findClass (m_cn own) = some mid.cls ∧ (∀ w ∈ m_ws, w.before args s = true) ∧ meth.sig.returnType = rt ∧ meth.locks = false ∧ (c.exceptionTable.toList = tableOf hh ∨ (own = 9 ∧ rt = some .boolean)) ∧ (ini = true → meth.name = "<init>") ∧ l.stackTraces = false
/-- the heap holds the memory; nothing below the base was written; what was made is counted -/
def j_I (G : j_G) (s : State) (M : m_M) (c0 s0 : Nat) (H : Heap) (locs : List Loc) (cells slots : Nat) : Prop :=
  va_P G.2.2.2.1 vwCl (j_w G M) H ∧ va_S (j_A G) s.heap H locs ∧ M.2.1 ≤ 1000000 ∧ c0 + cells = M.2.2.1 ∧ s0 + slots = M.2.2.2
/-- from place i, with these locals, this stack, this memory, the machine comes to Q -/
def j_P (p : Program) (l : Launch) (e : Env) (R : Room) (s : State) (mid : MethodId) (args : Array Value) (below : List Frame) (meth : Method) (c : Code) (Q : Nat → Nat → State → Prop) (G : j_G) (nL c0 s0 : Nat) (L : List (Nat × m_I)) (i : Nat) (ls : m_L) (st : List Value) (M : m_M) : Prop :=
  ∀ (JL : Array Slot) (H : Heap) (locs : List Loc) (cells slots : Nat), j_I G s M c0 s0 H locs cells slots → j_LS G ls nL JL → W p l e R s mid args below meth c H locs cells slots (Q c0 s0) (F0 mid (m_pc L i) JL (st.map (j_v G)))
section J1
variable {p : Program} {l : Launch} {e : Env} {R : Room} {s : State} {mid : MethodId} {args : Array Value} {below : List Frame} {meth : Method} {c : Code} {Q : Nat → Nat → State → Prop}
variable {G : j_G} {nL c0 s0 i own mx : Nat} {cd : ByteArray} {rt : Option FieldType} {ini : Bool} {hh : List (Nat × Nat × Nat × Nat)} {L : List (Nat × m_I)} {ls : m_L} {st : List Value} {M : m_M}
theorem i_const (F : j_F p l s mid args meth c own cd mx rt ini hh) {n : Int32} {a : Nat} (hd : m_d1 cd L (m_pc L i) i (.iconst n.toInt) 1 ∨ (m_d1 cd L (m_pc L i) i (.bipush n.toInt) 2 ∧ (Int8.ofInt n.toInt).toInt32 = n) ∨ (m_d1 cd L (m_pc L i) i (.sipush n.toInt) 3 ∧ (Int16.ofInt n.toInt).toInt32 = n) ∨ (m_d1 cd L (m_pc L i) i (.ldc a) 2 ∧ (own, (a, n)) ∈ m_kl))
    (k : j_P p l e R s mid args below meth c Q G nL c0 s0 L (i + 1) ls (.int n :: st) M) : j_P p l e R s mid args below meth c Q G nL c0 s0 L i ls st M := by
  intro JL H locs cells slots hI hL
  have kk := k JL H locs cells slots hI hL
  obtain ⟨hx, hb, -, ho, hw, -⟩ := F
  rcases hd with ⟨h1, h2⟩ | ⟨⟨h1, h2⟩, h3⟩ | ⟨⟨h1, h2⟩, h3⟩ | ⟨⟨h1, h2⟩, h3⟩ <;> rw [h2] at kk
  · exact lv_iconst hx hb h1 (Int32.ofInt_toInt n) kk
  · exact lv_bipush hx hb h1 h3 kk
  · exact lv_sipush hx hb h1 h3 kk
  · exact lv_ldc hx hb ho (hw _ (m_kl_ok _ h3)) h1 kk
theorem i_iload (F : j_F p l s mid args meth c own cd mx rt ini hh) {a : Nat} {x : Int32} (hd : m_d1 cd L (m_pc L i) i (.iload a) 2 ∨ (a < 4 ∧ m_d1 cd L (m_pc L i) i (.iload_n (Fin.ofNat 4 a)) 1)) (hl : ls[a]? = some (some (.int x)))
    (k : j_P p l e R s mid args below meth c Q G nL c0 s0 L (i + 1) ls (.int x :: st) M) : j_P p l e R s mid args below meth c Q G nL c0 s0 L i ls st M := by
  intro JL H locs cells slots hI hL
  have kk := k JL H locs cells slots hI hL
  have hj := hL.at hl
  obtain ⟨hx, hb, -⟩ := F
  rcases hd with ⟨h1, h2⟩ | ⟨h0, h1, h2⟩ <;> rw [h2] at kk
  · exact lv_iload hx hb h1 hj kk
  · exact lv_iload_n hx hb h1 (Nat.mod_eq_of_lt h0) hj kk
theorem i_aload (F : j_F p l s mid args meth c own cd mx rt ini hh) {a x : Nat} (hd : m_d1 cd L (m_pc L i) i (.aload a) 2 ∨ (a < 4 ∧ m_d1 cd L (m_pc L i) i (.aload_n (Fin.ofNat 4 a)) 1)) (hl : ls[a]? = some (some (.ref x)))
    (k : j_P p l e R s mid args below meth c Q G nL c0 s0 L (i + 1) ls (.ref x :: st) M) : j_P p l e R s mid args below meth c Q G nL c0 s0 L i ls st M := by
  intro JL H locs cells slots hI hL
  have kk := k JL H locs cells slots hI hL
  have hj := hL.at hl
  obtain ⟨hx, hb, -⟩ := F
  rcases hd with ⟨h1, h2⟩ | ⟨h0, h1, h2⟩ <;> rw [h2] at kk
  · exact lv_aload hx hb h1 hj kk
  · exact lv_aload_n hx hb h1 (Nat.mod_eq_of_lt h0) hj kk
theorem i_istore (F : j_F p l s mid args meth c own cd mx rt ini hh) {a : Nat} {x : Int32} (hd : m_d1 cd L (m_pc L i) i (.istore a) 2 ∨ (a < 4 ∧ m_d1 cd L (m_pc L i) i (.istore_n (Fin.ofNat 4 a)) 1)) (hl : a < ls.length)
    (k : j_P p l e R s mid args below meth c Q G nL c0 s0 L (i + 1) (ls.set a (some (.int x))) st M) : j_P p l e R s mid args below meth c Q G nL c0 s0 L i ls (.int x :: st) M := by
  intro JL H locs cells slots hI hL
  obtain ⟨hx, hb, -⟩ := F
  have hn : a < nL := by rw [← hL.2]; exact hl
  rcases hd with ⟨h1, h2⟩ | ⟨h0, h1, h2⟩
  · refine lv_istore hx hb h1 hL.1 hn rfl fun JL' hs => ?_
    have kk := k JL' H locs cells slots hI (hL.set (v := .int x) hs)
    rw [h2] at kk
    exact kk
  · refine lv_istore_n hx hb h1 (Nat.mod_eq_of_lt h0) hL.1 hn rfl fun JL' hs => ?_
    have kk := k JL' H locs cells slots hI (hL.set (v := .int x) hs)
    rw [h2] at kk
    exact kk
theorem i_astore (F : j_F p l s mid args meth c own cd mx rt ini hh) {a x : Nat} (hd : m_d1 cd L (m_pc L i) i (.astore a) 2 ∨ (a < 4 ∧ m_d1 cd L (m_pc L i) i (.astore_n (Fin.ofNat 4 a)) 1)) (hl : a < ls.length)
    (k : j_P p l e R s mid args below meth c Q G nL c0 s0 L (i + 1) (ls.set a (some (.ref x))) st M) : j_P p l e R s mid args below meth c Q G nL c0 s0 L i ls (.ref x :: st) M := by
  intro JL H locs cells slots hI hL
  obtain ⟨hx, hb, -⟩ := F
  have hn : a < nL := by rw [← hL.2]; exact hl
  rcases hd with ⟨h1, h2⟩ | ⟨h0, h1, h2⟩
  · refine lv_astore hx hb h1 hL.1 hn rfl fun JL' hs => ?_
    have kk := k JL' H locs cells slots hI (hL.set (v := .ref x) hs)
    rw [h2] at kk
    exact kk
  · refine lv_astore_n hx hb h1 (Nat.mod_eq_of_lt h0) hL.1 hn rfl fun JL' hs => ?_
    have kk := k JL' H locs cells slots hI (hL.set (v := .ref x) hs)
    rw [h2] at kk
    exact kk
theorem i_iinc (F : j_F p l s mid args meth c own cd mx rt ini hh) {a : Nat} {n x : Int32} (hd : m_d1 cd L (m_pc L i) i (.iinc a n.toInt) 3) (hl : ls[a]? = some (some (.int x)))
    (k : j_P p l e R s mid args below meth c Q G nL c0 s0 L (i + 1) (ls.set a (some (.int (x + n)))) st M) : j_P p l e R s mid args below meth c Q G nL c0 s0 L i ls st M := by
  intro JL H locs cells slots hI hL
  obtain ⟨hx, hb, -⟩ := F
  have hn : a < nL := by rw [← hL.2]; exact (List.getElem?_eq_some_iff.mp hl).1
  obtain ⟨h1, h2⟩ := hd
  have hm : (a, Value.int x) ∈ j_l G 0 ls := (j_l_mem ls 0 a _).mpr ⟨a, .int x, hl, (Nat.zero_add a).symm, rfl⟩
  obtain ⟨kx, hkx⟩ := List.getElem?_of_mem hm
  refine lv_iinc (v := x + n) hx hb h1 hL.1 hkx (by rw [Int32.ofInt_toInt]) hn rfl fun JL' hs => ?_
  have kk := k JL' H locs cells slots hI (hL.set (v := .int (x + n)) hs)
  rw [h2] at kk
  exact kk
theorem i_bin (F : j_F p l s mid args meth c own cd mx rt ini hh) {o : Nat} {x y z : Int32} (hd : m_d1 cd L (m_pc L i) i (m_bi o) 1) (hz : m_bin o x y = some z)
    (k : j_P p l e R s mid args below meth c Q G nL c0 s0 L (i + 1) ls (.int z :: st) M) : j_P p l e R s mid args below meth c Q G nL c0 s0 L i ls (.int y :: .int x :: st) M := by
  intro JL H locs cells slots hI hL
  have kk := k JL H locs cells slots hI hL
  obtain ⟨hx, hb, -⟩ := F
  obtain ⟨h1, h2⟩ := hd
  rw [h2] at kk
  match o, h1, hz with
  | 0, h1, hz => cases hz; exact lv_iadd hx hb h1 kk
  | 1, h1, hz => cases hz; exact lv_isub hx hb h1 kk
  | 2, h1, hz => cases hz; exact lv_imul hx hb h1 kk
  | 3, h1, hz =>
    by_cases h0 : y = 0
    · simp [m_bin, h0] at hz
    · simp only [m_bin, h0, if_false, Option.some.injEq] at hz
      subst hz
      exact lv_idiv hx hb h1 h0 kk
  | 4, h1, hz =>
    by_cases h0 : y = 0
    · simp [m_bin, h0] at hz
    · simp only [m_bin, h0, if_false, Option.some.injEq] at hz
      subst hz
      exact lv_irem hx hb h1 h0 kk
  | 5, h1, hz => cases hz; exact lv_ishl hx hb h1 kk
  | 6, h1, hz => cases hz; exact lv_ishr hx hb h1 kk
  | 7, h1, hz => cases hz; exact lv_iand hx hb h1 kk
  | 8, h1, hz => cases hz; exact lv_ior hx hb h1 kk
  | n + 9, h1, hz => cases hz; exact lv_ixor hx hb h1 kk
theorem i_if (F : j_F p l s mid args meth c own cd mx rt ini hh) {o b : Nat} {x : Int32} (hd : m_d1 cd L (m_pc L i) i (.ifCond (m_cnd o) ((m_pc L b : Int) - m_pc L i)) 3)
    (k : j_P p l e R s mid args below meth c Q G nL c0 s0 L (if m_cond o x 0 = true then b else i + 1) ls st M) : j_P p l e R s mid args below meth c Q G nL c0 s0 L i ls (.int x :: st) M := by
  intro JL H locs cells slots hI hL
  have kk := k JL H locs cells slots hI hL
  obtain ⟨hx, hb, -⟩ := F
  obtain ⟨h1, h2⟩ := hd
  have ht : (m_pc L i : Int) + ((m_pc L b : Int) - m_pc L i) = (m_pc L b : Int) := by omega
  have go : ∀ (P : Prop) (_ : Decidable P), (m_cond o x 0 = decide P) → (P → W p l e R s mid args below meth c H locs cells slots (Q c0 s0) (F0 mid (m_pc L b) JL (st.map (j_v G)))) ∧ (¬ P → W p l e R s mid args below meth c H locs cells slots (Q c0 s0) (F0 mid (m_pc L i + 3) JL (st.map (j_v G)))) := by
    intro P hD he
    constructor
    · intro hp
      rw [he, decide_eq_true hp, if_pos rfl] at kk
      exact kk
    · intro hp
      rw [he, decide_eq_false hp, if_neg (by decide), h2] at kk
      exact kk
  revert go h1
  match o with
  | 0 => exact fun h1 go => lv_if_eq hx hb h1 ht (go (x = 0) inferInstance rfl).1 (go (x = 0) inferInstance rfl).2
  | 1 => exact fun h1 go => lv_if_ne hx hb h1 ht (go (¬ x = 0) inferInstance rfl).1 (fun z => (go (¬ x = 0) inferInstance rfl).2 (fun q => q z))
  | 2 => exact fun h1 go => lv_if_lt hx hb h1 ht (go (x < 0) inferInstance rfl).1 (go (x < 0) inferInstance rfl).2
  | 3 => exact fun h1 go => lv_if_ge hx hb h1 ht (go (0 ≤ x) inferInstance rfl).1 (go (0 ≤ x) inferInstance rfl).2
  | 4 => exact fun h1 go => lv_if_gt hx hb h1 ht (go (0 < x) inferInstance rfl).1 (go (0 < x) inferInstance rfl).2
  | n + 5 => exact fun h1 go => lv_if_le hx hb h1 ht (go (x ≤ 0) inferInstance rfl).1 (go (x ≤ 0) inferInstance rfl).2
theorem i_cmp (F : j_F p l s mid args meth c own cd mx rt ini hh) {o b : Nat} {x y : Int32} (hd : m_d1 cd L (m_pc L i) i (.if_icmp (m_cnd o) ((m_pc L b : Int) - m_pc L i)) 3)
    (k : j_P p l e R s mid args below meth c Q G nL c0 s0 L (if m_cond o x y = true then b else i + 1) ls st M) : j_P p l e R s mid args below meth c Q G nL c0 s0 L i ls (.int y :: .int x :: st) M := by
  intro JL H locs cells slots hI hL
  have kk := k JL H locs cells slots hI hL
  obtain ⟨hx, hb, -⟩ := F
  obtain ⟨h1, h2⟩ := hd
  have ht : (m_pc L i : Int) + ((m_pc L b : Int) - m_pc L i) = (m_pc L b : Int) := by omega
  have go : ∀ (P : Prop) (_ : Decidable P), (m_cond o x y = decide P) → (P → W p l e R s mid args below meth c H locs cells slots (Q c0 s0) (F0 mid (m_pc L b) JL (st.map (j_v G)))) ∧ (¬ P → W p l e R s mid args below meth c H locs cells slots (Q c0 s0) (F0 mid (m_pc L i + 3) JL (st.map (j_v G)))) := by
    intro P hD he
    constructor
    · intro hp
      rw [he, decide_eq_true hp, if_pos rfl] at kk
      exact kk
    · intro hp
      rw [he, decide_eq_false hp, if_neg (by decide), h2] at kk
      exact kk
  revert go h1
  match o with
  | 0 => exact fun h1 go => lv_icmp_eq hx hb h1 ht (go (x = y) inferInstance rfl).1 (go (x = y) inferInstance rfl).2
  | 1 => exact fun h1 go => lv_icmp_ne hx hb h1 ht (go (¬ x = y) inferInstance rfl).1 (fun z => (go (¬ x = y) inferInstance rfl).2 (fun q => q z))
  | 2 => exact fun h1 go => lv_icmp_lt hx hb h1 ht (go (x < y) inferInstance rfl).1 (go (x < y) inferInstance rfl).2
  | 3 => exact fun h1 go => lv_icmp_ge hx hb h1 ht (go (y ≤ x) inferInstance rfl).1 (go (y ≤ x) inferInstance rfl).2
  | 4 => exact fun h1 go => lv_icmp_gt hx hb h1 ht (go (y < x) inferInstance rfl).1 (go (y < x) inferInstance rfl).2
  | n + 5 => exact fun h1 go => lv_icmp_le hx hb h1 ht (go (x ≤ y) inferInstance rfl).1 (go (x ≤ y) inferInstance rfl).2
theorem i_goto (F : j_F p l s mid args meth c own cd mx rt ini hh) {b : Nat} (hd : m_dc cd (m_pc L i) (.goto ((m_pc L b : Int) - m_pc L i)) 3)
    (k : j_P p l e R s mid args below meth c Q G nL c0 s0 L b ls st M) : j_P p l e R s mid args below meth c Q G nL c0 s0 L i ls st M := by
  intro JL H locs cells slots hI hL
  obtain ⟨hx, hb, -⟩ := F
  exact lv_goto hx hb hd (by omega) (k JL H locs cells slots hI hL)
theorem i_cat1 {G : j_G} {v : Value} (h : m_cat1 v = true) : (j_v G v).category = 1 := by
  cases v <;> first | rfl | (simp [m_cat1] at h)
theorem i_cat (G : j_G) (v : Value) : (j_v G v).category = v.category := by
  cases v <;> rfl
theorem i_cats (G : j_G) (st : List Value) : ((st.map (j_v G)).map fun v => v.category).sum = m_cats st := by
  unfold m_cats
  rw [List.map_map]
  congr 1
  exact List.map_congr_left fun v _ => i_cat G v
theorem i_dup (F : j_F p l s mid args meth c own cd mx rt ini hh) {v : Value} (hd : m_d1 cd L (m_pc L i) i .dup 1) (hv : m_cat1 v = true)
    (k : j_P p l e R s mid args below meth c Q G nL c0 s0 L (i + 1) ls (v :: v :: st) M) : j_P p l e R s mid args below meth c Q G nL c0 s0 L i ls (v :: st) M := by
  intro JL H locs cells slots hI hL
  have kk := k JL H locs cells slots hI hL
  obtain ⟨hx, hb, -⟩ := F
  obtain ⟨h1, h2⟩ := hd
  rw [h2] at kk
  exact lv_dup hx hb h1 (i_cat1 hv) kk
theorem i_dup2 (F : j_F p l s mid args meth c own cd mx rt ini hh) {v w : Value} (hd : m_d1 cd L (m_pc L i) i .dup2 1) (hv : m_cat1 v = true) (hw : m_cat1 w = true)
    (k : j_P p l e R s mid args below meth c Q G nL c0 s0 L (i + 1) ls (v :: w :: v :: w :: st) M) : j_P p l e R s mid args below meth c Q G nL c0 s0 L i ls (v :: w :: st) M := by
  intro JL H locs cells slots hI hL
  have kk := k JL H locs cells slots hI hL
  obtain ⟨hx, hb, -⟩ := F
  obtain ⟨h1, h2⟩ := hd
  rw [h2] at kk
  exact lv_dup2_11 hx hb h1 (i_cat1 hv) (i_cat1 hw) kk
theorem i_i2l (F : j_F p l s mid args meth c own cd mx rt ini hh) {x : Int32} (hd : m_d1 cd L (m_pc L i) i .i2l 1)
    (k : j_P p l e R s mid args below meth c Q G nL c0 s0 L (i + 1) ls (.long x.toInt64 :: st) M) : j_P p l e R s mid args below meth c Q G nL c0 s0 L i ls (.int x :: st) M := by
  intro JL H locs cells slots hI hL
  have kk := k JL H locs cells slots hI hL
  obtain ⟨hx, hb, -⟩ := F
  obtain ⟨h1, h2⟩ := hd
  rw [h2] at kk
  exact lv_i2l hx hb h1 rfl kk
theorem i_lconst (F : j_F p l s mid args meth c own cd mx rt ini hh) {a : Nat} (ha : a < 2) (hd : m_d1 cd L (m_pc L i) i (.lconst (Fin.ofNat 2 a)) 1)
    (k : j_P p l e R s mid args below meth c Q G nL c0 s0 L (i + 1) ls (.long (Int64.ofNat a) :: st) M) : j_P p l e R s mid args below meth c Q G nL c0 s0 L i ls st M := by
  intro JL H locs cells slots hI hL
  have kk := k JL H locs cells slots hI hL
  obtain ⟨hx, hb, -⟩ := F
  obtain ⟨h1, h2⟩ := hd
  rw [h2] at kk
  exact lv_lconst hx hb h1 (congrArg Int64.ofNat (Nat.mod_eq_of_lt ha)) kk
theorem i_lcmp (F : j_F p l s mid args meth c own cd mx rt ini hh) {x y : Int64} (hd : m_d1 cd L (m_pc L i) i .lcmp 1)
    (k : j_P p l e R s mid args below meth c Q G nL c0 s0 L (i + 1) ls (.int (lg_cmp x y) :: st) M) : j_P p l e R s mid args below meth c Q G nL c0 s0 L i ls (.long y :: .long x :: st) M := by
  intro JL H locs cells slots hI hL
  have kk := k JL H locs cells slots hI hL
  obtain ⟨hx, hb, -⟩ := F
  obtain ⟨h1, h2⟩ := hd
  rw [h2] at kk
  exact W.lcmp hx hb h1 kk
end J1
