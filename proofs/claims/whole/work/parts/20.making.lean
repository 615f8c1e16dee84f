/-! WHAT MAKES CELLS: the new cell lies right behind the last one. -/
theorem z_new0 : ((List.range 9).all fun c => [Jvm.Cond.instantiable (m_vc c).1 (m_vc c).2.2, Jvm.Cond.initialized (m_vc c).1].all fun w => decide (w ∈ lw_tbl) && goodWord w) = true := by decide +kernel
theorem z_new {c : Nat} (h : c < 9) : Jvm.Cond.instantiable (m_vc c).1 (m_vc c).2.2 ∈ m_ws ∧ Jvm.Cond.initialized (m_vc c).1 ∈ m_ws := by
  have h1 := List.all_eq_true.mp z_new0 c (List.mem_range.mpr h)
  have h2 : ∀ w ∈ [Jvm.Cond.instantiable (m_vc c).1 (m_vc c).2.2, Jvm.Cond.initialized (m_vc c).1], w ∈ m_ws := by
    intro w hw
    have h3 := List.all_eq_true.mp h1 w hw
    simp only [Bool.and_eq_true, decide_eq_true_eq] at h3
    exact List.mem_filter.mpr h3
  exact ⟨h2 _ (by simp), h2 _ (by simp)⟩
theorem z_born0 : ((List.range 9).all fun c => decide ((m_born9.getD c []).length = (m_vc c).2.2) && (List.range (m_vc c).2.2).all fun k => decide (((m_born9.getD c []).getD k 9 = 0 ∧ m_kd c k < 2) ∨ (¬ (m_born9.getD c []).getD k 9 = 0 ∧ m_kd c k = 2))) = true := by decide +kernel
theorem z_born {c : Nat} (h : c < 9) : (m_born (m_born9.getD c [])).length = (m_vc c).2.2 ∧ ∀ k, k < (m_vc c).2.2 → ∀ G : j_G, defaultValue (m_tyf c k) = vp_V ((m_born (m_born9.getD c [])).map (j_v G)) k := by
  have h1 := List.all_eq_true.mp z_born0 c (List.mem_range.mpr h)
  simp only [Bool.and_eq_true, decide_eq_true_eq] at h1
  obtain ⟨h2, h3⟩ := h1
  refine ⟨by rw [m_born, List.length_map]; exact h2, fun k hk G => ?_⟩
  have h4 := of_decide_eq_true (List.all_eq_true.mp h3 k (List.mem_range.mpr hk))
  have h5 : (m_born9.getD c [])[k]? = some ((m_born9.getD c []).getD k 9) := by
    rw [← h2] at hk
    generalize m_born9.getD c [] = lb at hk ⊢
    rw [List.getD_eq_getElem?_getD, List.getElem?_eq_getElem hk]
    rfl
  have h6 : vp_V ((m_born (m_born9.getD c [])).map (j_v G)) k = if (m_born9.getD c []).getD k 9 = 0 then .int 0 else .null := by
    unfold vp_V m_born
    rw [List.getD_eq_getElem?_getD, List.getElem?_map, List.getElem?_map, h5]
    by_cases e : (m_born9.getD c []).getD k 9 = 0
    · rw [if_pos e]; simp only [Option.map_some, Option.getD_some, if_pos e]; rfl
    · rw [if_neg e]; simp only [Option.map_some, Option.getD_some, if_neg e]; rfl
  rw [h6]
  rcases h4 with ⟨h4, h7⟩ | ⟨h4, h7⟩
  · rw [if_pos h4]
    rcases q_kd h hk with ⟨h8, h9⟩ | ⟨h8, h9⟩ | ⟨h8, h9⟩
    · rw [h9]; rfl
    · rw [h9]; rfl
    · omega
  · rw [if_neg h4]
    rcases q_kd h hk with ⟨h8, h9⟩ | ⟨h8, h9⟩ | ⟨h8, h9⟩
    · omega
    · omega
    · generalize m_tyf c k = t at h9
      cases t <;> first | rfl | (simp [q_rf] at h9)
def z_an (k : Nat) : String := if k = 3 then "[[I" else if k = 4 then "[[Z" else m_cn (m_el k)
theorem z_al0 : (m_al.all fun q => decide (Jvm.Cond.classLink (m_cn q.1) q.2.1 (z_an q.2.2) ∈ lw_tbl) && goodWord (Jvm.Cond.classLink (m_cn q.1) q.2.1 (z_an q.2.2))) = true := by decide +kernel
theorem z_al {q : Nat × (Nat × Nat)} (h : q ∈ m_al) : Jvm.Cond.classLink (m_cn q.1) q.2.1 (z_an q.2.2) ∈ m_ws := by
  have h1 := List.all_eq_true.mp z_al0 q h
  simp only [Bool.and_eq_true, decide_eq_true_eq] at h1
  exact List.mem_filter.mpr h1
theorem z_ac0 : ([FieldType.int, .boolean, .long].all fun t => decide (Jvm.Cond.arrayClass t ∈ lw_tbl) && goodWord (Jvm.Cond.arrayClass t)) = true := by decide +kernel
theorem z_ac {t : FieldType} (h : t ∈ [FieldType.int, .boolean, .long]) : Jvm.Cond.arrayClass t ∈ m_ws := by
  have h1 := List.all_eq_true.mp z_ac0 t h
  simp only [Bool.and_eq_true, decide_eq_true_eq] at h1
  exact List.mem_filter.mpr h1
theorem z_el : ((List.range 9).all fun k => decide (k < 5 ∨ (m_cn (m_el k) ∈ [RX4, RX3, RX6, RX0] ∧ j_ty.getD k .int = .object (m_cn (m_el k))))) = true := by decide +kernel
section JA
variable {p : Program} {l : Launch} {e : Env} {R : Room} {s : State} {mid : MethodId} {args : Array Value} {below : List Frame} {meth : Method} {c : Code} {Q : Nat → Nat → State → Prop}
variable {G : j_G} {nL c0 s0 i own mx : Nat} {cd : ByteArray} {rt : Option FieldType} {ini : Bool} {hh : List (Nat × Nat × Nat × Nat)} {L : List (Nat × m_I)} {ls : m_L} {st : List Value} {M : m_M}
theorem j_base (hB : G.1 ≤ s.heap.size ∧ s.heap.size ≤ G.1 + c0) {H : Heap} {locs : List Loc} {cells slots : Nat} (hI : j_I G s M c0 s0 H locs cells slots) (hz : H.size ≤ s.heap.size + cells) (he : M.2.2.1 = M.2.1) : H.size = G.1 + M.2.1 := by
  obtain ⟨i1, i2, i3, i4, i5⟩ := hI
  obtain ⟨b1, b2⟩ := hB
  have hup : H.size ≤ G.1 + M.2.1 := by omega
  have hlo : G.1 + M.2.1 ≤ H.size := by
    rcases Nat.eq_zero_or_pos M.2.1 with h | h
    · have := i2.1
      omega
    · have h9 := (i1 (M.2.1 - 1) _ (j_get (G := G) (M := M) (k := M.2.1 - 1) (by omega))).lt
      simp only at h9
      omega
  omega
theorem j_grow {H H1 : Heap} {locs : List Loc} {cells slots n : Nat} {x : m_C} (hI : j_I G s M c0 s0 H locs cells slots) (hs : H.size = G.1 + M.2.1) (hz : H1.size = H.size + 1) (ho : ∀ q : Nat, q < H.size → H1[q]? = H[q]?) (hx : va_at G.2.2.2.1 vwCl (H.size, j_c G x) H1) (h9 : M.2.1 < 900000) : j_I G s (m_add M x n) c0 s0 H1 locs (cells + 1) (slots + n) := by
  obtain ⟨i1, i2, i3, i4, i5⟩ := hI
  refine ⟨?_, ⟨Nat.le_trans i2.1 (by omega), fun q h1 h2 => (ho q (Nat.lt_of_lt_of_le h1 i2.1)).trans (i2.2.1 q h1 h2), i2.2.2⟩, by show M.2.1 + 1 ≤ 1000000; omega, by show c0 + (cells + 1) = M.2.2.1 + 1; omega, by show s0 + (slots + n) = M.2.2.2 + n; omega⟩
  rw [← j_push (n := n)]
  refine (i1.kept fun k x hx => ho x.1 ((i1 k x hx).lt)).app fun k y hy => ?_
  have h0 : k < 1 := (List.getElem?_eq_some_iff.mp hy).1
  rw [show k = 0 by omega] at hy
  cases hy
  rw [← hs]
  exact hx
theorem j_vnew {k : Nat} (h : k < 1000000) : j_v G (.ref k) = .ref (G.1 + k) := congrArg Value.ref (j_ad_lt h)
theorem i_new (F : j_F p l s mid args meth c own cd mx rt ini hh) (K : j_K G s) (hB : G.1 ≤ s.heap.size ∧ s.heap.size ≤ G.1 + c0) {ix a : Nat} (ha : a < 9) (hd : m_d1 cd L (m_pc L i) i (.new ix) 3) (hl : (own, (ix, a)) ∈ m_cl) (he : M.2.2.1 = M.2.1) (h9 : M.2.1 < 900000) (hc : M.2.2.1 + 1 ≤ c0 + R.cells) (hsl : M.2.2.2 + (m_born (m_born9.getD a [])).length ≤ s0 + R.slots)
    (k : j_P p l e R s mid args below meth c Q G nL c0 s0 L (i + 1) ls (.ref M.2.1 :: st) (m_add M (.inr (a, m_born (m_born9.getD a []))) (m_born (m_born9.getD a [])).length)) : j_P p l e R s mid args below meth c Q G nL c0 s0 L i ls st M := by
  intro JL H locs cells slots hI hL
  refine j_bound fun hz => ?_
  have hs := j_base hB hI hz he
  obtain ⟨hx, hb, -, ho, hw, -⟩ := F
  obtain ⟨h1, h2⟩ := hd
  obtain ⟨b1, b2⟩ := z_born ha
  obtain ⟨n1, n2⟩ := z_new ha
  have hvc : vwCl[a]? = some ((m_vc a).1, (m_vc a).2.1, (m_vc a).2.2) := q_vc ha
  have hKn := K.1 a _ hvc
  have hcl : (Jvm.Cond.classLink (m_cn own) ix (m_vc a).1).before args s = true := by
    rw [q_nm ha]
    exact hw _ (m_cl_ok _ hl)
  have hI0 := hI
  obtain ⟨i1, i2, i3, i4, i5⟩ := hI
  rw [b1] at hsl k
  refine W.newcK hx hb ho hcl (hw _ n1) (hw _ n2) rfl h1 (by omega) (by omega) hKn.2.1 rfl fun H1 kC hkC e1 z1 o1 => ?_
  have kk := k JL H1 locs (cells + 1) (slots + (m_vc a).2.2) (j_grow hI0 hs z1 o1 ⟨_, hvc, (u_born (m_tyf a) hw (q_in ha) hKn hkC e1 (q_ty ha)).to fun j hj => b2 j hj G⟩ h9) hL
  rw [h2, List.map_cons, j_vnew (Nat.lt_trans h9 (by decide)), ← hs] at kk
  exact kk
theorem j_arr (K : j_K G s) {t : Nat} (ht : t < 9) {cA : ClassId} (hf : s.vm.findClass ("[" ++ (j_ty.getD t .int).toString) = some cA) : cA = G.2.2.1 t := by
  have h1 := (K.2 t _ (j_ty_at G ht)).2
  have h2 : s.vm.findClass ("[" ++ (j_ty.getD t .int).toString) = some (G.2.2.1 t) := by
    generalize j_ty.getD t .int = ty at h1
    cases ty with
    | object C =>
      obtain ⟨kA, comp, -, -, -, h4⟩ := h1
      exact h4
    | _ => exact h1
  rw [hf] at h2
  exact Option.some.inj h2
theorem i_newp (F : j_F p l s mid args meth c own cd mx rt ini hh) (K : j_K G s) (hB : G.1 ≤ s.heap.size ∧ s.heap.size ≤ G.1 + c0) {a : Nat} {n : Int32} (ha : a < 3) (hd : m_d1 cd L (m_pc L i) i (.newarray (m_at a)) 2) (he : M.2.2.1 = M.2.1) (h9 : M.2.1 < 900000) (hn : ¬ n < 0) (hn2 : n.toNatClampNeg ≤ 100000) (hc : M.2.2.1 + 1 ≤ c0 + R.cells) (hsl : M.2.2.2 + n.toNatClampNeg ≤ s0 + R.slots)
    (k : j_P p l e R s mid args below meth c Q G nL c0 s0 L (i + 1) ls (.ref M.2.1 :: st) (m_add M (m_zero a n.toNatClampNeg) n.toNatClampNeg)) : j_P p l e R s mid args below meth c Q G nL c0 s0 L i ls (.int n :: st) M := by
  intro JL H locs cells slots hI hL
  refine j_bound fun hz => ?_
  have hs := j_base hB hI hz he
  obtain ⟨hx, hb, -, ho, hw, -⟩ := F
  obtain ⟨h1, h2⟩ := hd
  have hI0 := hI
  obtain ⟨i1, i2, i3, i4, i5⟩ := hI
  have hac : Jvm.Cond.arrayClass (newarray.typeOf (m_at a)) ∈ m_ws ∧ newarray.typeOf (m_at a) = j_ty.getD a .int ∧ n.toNatClampNeg * componentBytes (newarray.typeOf (m_at a)) ≤ 536870912 ∧ ∀ cA : ClassId, vp_cell cA (j_c G (m_zero a n.toNatClampNeg) |>.elim (fun x => x.2) (fun _ => (0, .inl fun _ => 0))) = arrV cA n.toNatClampNeg (fun _ => defaultValue (newarray.typeOf (m_at a))) := by
    match a, ha with
    | 0, _ => exact ⟨z_ac (t := .int) (by simp), rfl, by show _ * 4 ≤ _; omega, fun _ => rfl⟩
    | 1, _ => exact ⟨z_ac (t := .boolean) (by simp), rfl, by show _ * 1 ≤ _; omega, fun _ => rfl⟩
    | 2, _ => exact ⟨z_ac (t := .long) (by simp), rfl, by show _ * 8 ≤ _; omega, fun _ => rfl⟩
  obtain ⟨a1, a2, a3, a4⟩ := hac
  refine va_newaK hx hb (hw _ a1) rfl h1 rfl hn rfl a3 (by omega) (by omega) rfl fun H1 cA e1 z1 o1 hAr hNm => ?_
  rw [a2] at hNm
  have hcA := j_arr K (Nat.lt_trans ha (by decide)) hNm
  have hz0 : j_c G (m_zero a n.toNatClampNeg) = .inl (G.2.2.1 a, (j_c G (m_zero a n.toNatClampNeg) |>.elim (fun x => x.2) (fun _ => (0, .inl fun _ => 0)))) := by
    match a, ha with
    | 0, _ => rfl
    | 1, _ => rfl
    | 2, _ => rfl
  have hat : va_at G.2.2.2.1 vwCl (H.size, j_c G (m_zero a n.toNatClampNeg)) H1 := by
    rw [hz0]
    show H1[H.size]? = some (vp_cell _ _)
    rw [a4, ← hcA]
    exact e1
  have kk := k JL H1 locs (cells + 1) (slots + n.toNatClampNeg) (j_grow hI0 hs z1 o1 hat h9) hL
  rw [h2, List.map_cons, j_vnew (Nat.lt_trans h9 (by decide)), ← hs] at kk
  exact kk
theorem i_newq (F : j_F p l s mid args meth c own cd mx rt ini hh) (K : j_K G s) (E : j_E G s) (hB : G.1 ≤ s.heap.size ∧ s.heap.size ≤ G.1 + c0) {ix a : Nat} {n : Int32} (ha : 5 ≤ a) (ha9 : a < 9) (hd : m_d1 cd L (m_pc L i) i (.anewarray ix) 3) (hl : (own, (ix, a)) ∈ m_al) (he : M.2.2.1 = M.2.1) (h9 : M.2.1 < 900000) (hn : ¬ n < 0) (hn2 : n.toNatClampNeg ≤ 100000) (hc : M.2.2.1 + 1 ≤ c0 + R.cells) (hsl : M.2.2.2 + n.toNatClampNeg ≤ s0 + R.slots)
    (k : j_P p l e R s mid args below meth c Q G nL c0 s0 L (i + 1) ls (.ref M.2.1 :: st) (m_add M (m_zero a n.toNatClampNeg) n.toNatClampNeg)) : j_P p l e R s mid args below meth c Q G nL c0 s0 L i ls (.int n :: st) M := by
  intro JL H locs cells slots hI hL
  refine j_bound fun hz => ?_
  have hs := j_base hB hI hz he
  obtain ⟨hx, hb, -, ho, hw, -⟩ := F
  obtain ⟨h1, h2⟩ := hd
  have hI0 := hI
  obtain ⟨i1, i2, i3, i4, i5⟩ := hI
  have h3 := of_decide_eq_true (List.all_eq_true.mp z_el a (List.mem_range.mpr ha9))
  obtain ⟨h4, h5⟩ : m_cn (m_el a) ∈ [RX4, RX3, RX6, RX0] ∧ j_ty.getD a .int = .object (m_cn (m_el a)) := h3.resolve_left (by omega)
  have hAO : va_AO (m_cn (m_el a)) s := E.2.2.2.2.2.2.2.1 _ h4
  have hcl : (Jvm.Cond.classLink (m_cn own) ix (m_cn (m_el a))).before args s = true := by
    have h := hw _ (z_al hl)
    simp only [z_an, if_neg (show ¬ a = 3 by omega), if_neg (show ¬ a = 4 by omega)] at h
    exact h
  have hm : m_zero a n.toNatClampNeg = .inl (a, (n.toNatClampNeg, .inr (.inr (.inr (.inr (fun _ => none)))))) := by
    match a, ha, ha9 with
    | 5, _, _ => rfl
    | 6, _, _ => rfl
    | 7, _, _ => rfl
    | 8, _, _ => rfl
  refine W.anew hx hb ho hcl (va_AO.use hAO) rfl h1 rfl hn (by omega) (by omega) (by omega) fun cA kA comp f1 f2 f3 f4 => ?_
  generalize hH1 : H.push ({ cls := cA, slots := Array.replicate n.toNatClampNeg .null, vm := .none } : Cell) = H1
  have z1 : H1.size = H.size + 1 := by rw [← hH1, Array.size_push]
  have e1 : H1[H.size]? = some (arrV cA n.toNatClampNeg (fun _ => .null)) := by rw [← hH1, Array.getElem?_push_size, ← arrV_new]
  have o1 : ∀ q : Nat, q < H.size → H1[q]? = H[q]? := fun q hq => by rw [← hH1, Array.getElem?_push, if_neg (Nat.ne_of_lt hq)]
  rw [← h5] at f1
  have hcA := j_arr K ha9 f1
  have hat : va_at G.2.2.2.1 vwCl (H.size, j_c G (m_zero a n.toNatClampNeg)) H1 := by
    rw [hm]
    show H1[H.size]? = some (vp_cell (G.2.2.1 a) (n.toNatClampNeg, .inr (.inr (.inr (.inr (fun _ => none))))))
    rw [vp_cell_q, ← hcA]
    exact e1
  have kk := k JL H1 locs (cells + 1) (slots + n.toNatClampNeg) (j_grow hI0 hs z1 o1 hat h9) hL
  rw [h2, List.map_cons, j_vnew (Nat.lt_trans h9 (by decide)), ← hs] at kk
  exact kk
theorem m_rows_at {t k : Nat} {M : m_M} : ∀ n : Nat, (m_rows t k M n).2 = (M.2.1 + n, (M.2.2.1 + n, M.2.2.2 + n * k)) ∧ ∀ j : Nat, (m_rows t k M n).1 j = if M.2.1 ≤ j ∧ j < M.2.1 + n then m_zero t k else M.1 j
  | 0 => ⟨by simp [m_rows], fun j => by rw [if_neg (by omega)]; rfl⟩
  | n + 1 => by
    obtain ⟨h1, h2⟩ := m_rows_at (t := t) (k := k) (M := M) n
    constructor
    · show ((m_rows t k M n).2.1 + 1, ((m_rows t k M n).2.2.1 + 1, (m_rows t k M n).2.2.2 + k)) = _
      rw [h1]
      simp only [Prod.mk.injEq]
      refine ⟨by omega, by omega, ?_⟩
      rw [Nat.add_mul]
      omega
    · intro j
      show (if j = (m_rows t k M n).2.1 then m_zero t k else (m_rows t k M n).1 j) = _
      rw [h1, h2]
      by_cases e : j = M.2.1 + n
      · rw [if_pos e, if_pos (by omega)]
      · rw [if_neg e]
        by_cases f : M.2.1 ≤ j ∧ j < M.2.1 + n
        · rw [if_pos f, if_pos (by omega)]
        · rw [if_neg f, if_neg (by omega)]
theorem z_outer (c : ClassId) (N h0 : Nat) : ∀ i : Nat, Jvm.Free.Multi.outerC c N h0 i = arrV c N (fun j => va_rf (if j < i then some (h0 + 1 + j) else none))
  | 0 => by
    show ({ cls := c, slots := Array.replicate N .null, vm := .none } : Cell) = _
    rw [arrV_new]
    refine congrArg (arrV c N) (funext fun j => ?_)
    simp [va_rf]
  | i + 1 => by
    show (Jvm.Free.Multi.outerC c N h0 i).setSlot i (.ref (h0 + 1 + i)) = _
    rw [z_outer c N h0 i, arrV_store]
    refine congrArg (arrV c N) (funext fun j => ?_)
    by_cases e : j = i
    · subst e
      simp [updV, va_rf]
    · by_cases h : j < i
      · simp [updV, e, h, Nat.lt_succ_of_lt h]
      · simp [updV, e, h, show ¬ j < i + 1 by omega]
theorem i_newg (F : j_F p l s mid args meth c own cd mx rt ini hh) (K : j_K G s) (E : j_E G s) (hB : G.1 ≤ s.heap.size ∧ s.heap.size ≤ G.1 + c0) {ix a : Nat} {n k : Int32} {M1 : m_M} (ha : a < 2) (hd : m_d1 cd L (m_pc L i) i (.multianewarray ix 2) 4) (hl : (own, (ix, a + 3)) ∈ m_al) (he : M.2.2.1 = M.2.1) (h9 : M.2.1 < 900000) (hn : ¬ n < 0) (hk : ¬ k < 0) (hn2 : n.toNatClampNeg ≤ 1000) (hk2 : k.toNatClampNeg ≤ 1000)
    (hM1 : M1 = m_rows a k.toNatClampNeg (m_add M (.inl (a + 3, (n.toNatClampNeg, .inr (.inr (.inr (.inr (fun j => if j < n.toNatClampNeg then some (M.2.1 + 1 + j) else none))))))) n.toNatClampNeg) n.toNatClampNeg) (hc : M1.2.2.1 ≤ c0 + R.cells) (hsl : M1.2.2.2 ≤ s0 + R.slots)
    (kn : j_P p l e R s mid args below meth c Q G nL c0 s0 L (i + 1) ls (.ref M.2.1 :: st) M1) : j_P p l e R s mid args below meth c Q G nL c0 s0 L i ls (.int k :: .int n :: st) M := by
  intro JL H locs cells slots hI hL
  refine j_bound fun hz => ?_
  have hs := j_base hB hI hz he
  obtain ⟨hx, hb, -, ho, hw, -⟩ := F
  obtain ⟨h1, h2⟩ := hd
  have hI0 := hI
  obtain ⟨i1, i2, i3, i4, i5⟩ := hI
  obtain ⟨r1, r2⟩ := m_rows_at (t := a) (k := k.toNatClampNeg) (M := m_add M (.inl (a + 3, (n.toNatClampNeg, .inr (.inr (.inr (.inr (fun j => if j < n.toNatClampNeg then some (M.2.1 + 1 + j) else none))))))) n.toNatClampNeg) n.toNatClampNeg
  rw [← hM1] at r1 r2
  have q1 : M1.2.1 = M.2.1 + 1 + n.toNatClampNeg := by rw [r1]; rfl
  have q2 : M1.2.2.1 = M.2.2.1 + 1 + n.toNatClampNeg := by rw [r1]; rfl
  have q3 : M1.2.2.2 = M.2.2.2 + n.toNatClampNeg + n.toNatClampNeg * k.toNatClampNeg := by rw [r1]; rfl
  generalize hN : n.toNatClampNeg = N' at *
  generalize hKK : k.toNatClampNeg = K' at *
  have hty : ∃ ty : FieldType, ty ∈ [FieldType.int, .boolean, .long] ∧ j_ty.getD a .int = ty ∧ j_ty.getD (a + 3) .int = .array ty ∧ z_an (a + 3) = "[" ++ (FieldType.array ty).toString ∧ "[" ++ ty.toString = (FieldType.array ty).toString ∧ y_AOA (.array ty) s ∧ componentBytes ty ≤ 4 ∧ fits ty (defaultValue ty) = true ∧ (defaultValue ty).isDefault = true ∧ ∀ cc : ClassId, Jvm.Free.Multi.innerC cc K' (defaultValue ty) = vp_cell cc (K', .inl (fun _ => 0)) := by
    match a, ha with
    | 0, _ => exact ⟨.int, by simp, rfl, rfl, by decide +kernel, by decide +kernel, E.2.2.2.2.2.2.2.2.1.1, by decide, rfl, rfl, fun cc => by rw [Jvm.Free.Multi.innerC, arrV_new]; rfl⟩
    | 1, _ => exact ⟨.boolean, by simp, rfl, rfl, by decide +kernel, by decide +kernel, E.2.2.2.2.2.2.2.2.1.2, by decide, rfl, rfl, fun cc => by rw [Jvm.Free.Multi.innerC, arrV_new]; rfl⟩
  obtain ⟨ty, t1, t2, t3, t4, t5, t6, t7, t8, t9, t10⟩ := hty
  have hcl : (Jvm.Cond.classLink (m_cn own) ix ("[" ++ (FieldType.array ty).toString)).before args s = true := by
    rw [← t4]
    exact hw _ (z_al hl)
  intro T hT Xs
  obtain ⟨vm₁, cA, comp, -, fA, fC, hO, -, X', step⟩ := Xs.multianewarray2F hx ho hcl (y_AOA.use t6) (hw _ (z_ac t1)) (g := F0 mid (m_pc L i) JL (.int k :: .int n :: st.map (j_v G))) rfl (by rw [hb]; exact h1) rfl hn hk (by omega) (by rw [hKK]; exact Nat.le_trans (Nat.mul_le_mul hk2 t7) (by decide)) (by omega) t8 t9 (by rw [hN]; omega) (by rw [hN, hKK]; omega)
  rw [hN, hKK] at X' step
  have hA : cA = G.2.2.1 (a + 3) := j_arr K (by omega) (by rw [t3]; exact fA)
  have hC : comp = G.2.2.1 a := j_arr K (by omega) (by rw [t2, t5]; exact fC)
  subst hA
  subst hC
  obtain ⟨f1, f2, -, -⟩ := Jvm.Free.Multi.fill_facts (T.setVm vm₁) (G.2.2.1 (a + 3)) (G.2.2.1 a) N' K' (defaultValue ty) N'
  have hrow := fun j hj => Jvm.Free.Multi.fill_inner (T.setVm vm₁) (G.2.2.1 (a + 3)) (G.2.2.1 a) N' K' (defaultValue ty) N' j hj
  have hold := fun (x : Nat) (hx : x < (T.setVm vm₁).heap.size) => Jvm.Free.Multi.fill_old (T.setVm vm₁) (G.2.2.1 (a + 3)) (G.2.2.1 a) N' K' (defaultValue ty) (a := x) hx N'
  generalize hF : Jvm.Free.Multi.fill (T.setVm vm₁) (G.2.2.1 (a + 3)) (G.2.2.1 a) N' K' (defaultValue ty) N' = FF at X' step f1 f2 hrow hold
  have hTh : (T.setVm vm₁).heap = H := hT
  rw [hTh] at f1 f2 hrow hold
  rw [z_outer] at f2
  have hI1 : j_I G s M1 c0 s0 FF.heap locs (cells + 1 + N') (slots + N' + N' * K') := by
    refine ⟨fun kx y hy => ?_, ⟨Nat.le_trans i2.1 (by omega), fun q h1 h2 => (hold q (Nat.lt_of_lt_of_le h1 i2.1)).trans (i2.2.1 q h1 h2), i2.2.2⟩, by omega, by omega, by omega⟩
    obtain ⟨g1, rfl⟩ := j_get_inv hy
    rw [r2]
    show va_at G.2.2.2.1 vwCl (G.1 + kx, j_c G (if M.2.1 + 1 ≤ kx ∧ kx < M.2.1 + 1 + N' then m_zero a K' else if kx = M.2.1 then _ else M.1 kx)) FF.heap
    by_cases e1 : M.2.1 + 1 ≤ kx ∧ kx < M.2.1 + 1 + N'
    · rw [if_pos e1]
      have hrw := hrow (kx - (M.2.1 + 1)) (by omega)
      rw [show H.size + 1 + (kx - (M.2.1 + 1)) = G.1 + kx by omega, t10] at hrw
      have hz0 : m_zero a K' = .inl (a, (K', .inl (fun _ => 0))) := by
        match a, ha with
        | 0, _ => rfl
        | 1, _ => rfl
      rw [hz0]
      exact hrw
    · rw [if_neg e1]
      by_cases e2 : kx = M.2.1
      · rw [if_pos e2]
        subst e2
        show FF.heap[G.1 + M.2.1]? = some (vp_cell (G.2.2.1 (a + 3)) (N', .inr (.inr (.inr (.inr (fun j => (if j < N' then some (M.2.1 + 1 + j) else none).map (j_ad G)))))))
        rw [← hs, vp_cell_q, f2]
        refine congrArg (fun z => some (arrV (G.2.2.1 (a + 3)) N' z)) (funext fun j => ?_)
        by_cases e3 : j < N'
        · rw [if_pos e3, if_pos e3, Option.map_some, j_ad_lt (by omega), hs]
          rw [show G.1 + M.2.1 + 1 + j = G.1 + (M.2.1 + 1 + j) by omega]
        · rw [if_neg e3, if_neg e3]
          rfl
      · rw [if_neg e2]
        have hlt : kx < M.2.1 := by omega
        have h0 := i1 kx _ (j_get hlt)
        exact h0.kept (hold _ h0.lt)
  have kk := kn JL FF.heap locs (cells + 1 + N') (slots + N' + N' * K') hI1 hL
  rw [h2, List.map_cons, j_vnew (Nat.lt_trans h9 (by decide)), ← hs] at kk
  obtain ⟨t, a1, b1⟩ := kk FF rfl X'
  refine ⟨t, step t ?_, b1⟩
  have e9 : T.heap.size = H.size := by rw [hT]
  rw [e9]
  exact a1
end JA
