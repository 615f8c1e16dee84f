/-! TEXTS: String.length() and String.charAt(int) over a literal. -/
noncomputable def k_ws : List Cond := [.methodLink RJ0 335 yJ0_coder_7d493, .instanceMethod yJ0_coder_7d493, .selects RJ0 yJ0_coder_7d493 yJ0_coder_7d493, .initialized RJ0, .code yJ0_coder_7d493 cJ0_coder_7d493 1 (some .byte),
  .methodLink RJ0 492 yJ0_isLatin1_aae02, .instanceMethod yJ0_isLatin1_aae02, .selects RJ0 yJ0_isLatin1_aae02 yJ0_isLatin1_aae02, .code yJ0_isLatin1_aae02 cJ0_isLatin1_aae02 1 (some .boolean),
  .code yJ0_length_8abf5 cJ0_length_8abf5 1 (some .int), .instanceMethod yJ0_length_8abf5, .selects RJ0 yJ0_length_8abf5 yJ0_length_8abf5,
  .code yJ0_charAt_5068e cJ0_charAt_5068e 2 (some .char), .instanceMethod yJ0_charAt_5068e, .selects RJ0 yJ0_charAt_5068e yJ0_charAt_5068e,
  .methodLink RJ0 495 yJ1_charAt_3b067, .static yJ1_charAt_3b067, .initialized RJ1, .code yJ1_charAt_3b067 cJ1_charAt_3b067 2 (some .char),
  .methodLink RJ1 9 yJ0_checkIndex_df160, .static yJ0_checkIndex_df160, .code yJ0_checkIndex_df160 cJ0_checkIndex_df160 2 none,
  .methodLink RJ0 1059 yJ3_checkIndex_8e157, .static yJ3_checkIndex_8e157, .initialized RJ3, .code yJ3_checkIndex_8e157 cJ3_checkIndex_8e157 3 (some .int),
  .fieldLink RJ0 38 "java/lang/String" "COMPACT_STRINGS" "Z", .fieldLink RJ0 15 "java/lang/String" "coder" "B", .fieldLink RJ0 9 "java/lang/String" "value" "[B", .fieldLink RJ0 1053 "jdk/internal/util/Preconditions" "SIOOBE_FORMATTER" "Ljava/util/function/BiFunction;"]
set_option maxRecDepth 100000 in
theorem k_ws_ok : (k_ws.all fun w => decide (w ∈ lw_tbl) && goodWord w) = true := by decide +kernel
theorem k_in {w : Cond} (n : Nat) (h : k_ws[n]? = some w) : w ∈ m_ws := by
  have h1 := List.all_eq_true.mp k_ws_ok w (List.mem_of_getElem? h)
  simp only [Bool.and_eq_true, decide_eq_true_eq] at h1
  exact List.mem_filter.mpr h1
def k_Q (v : Option Value) : Array Value → State → Outcome → State → Prop := fun _ st oc t => oc = .returned v ∧ t.heap = st.heap
def k_Met (l : Launch) (G : j_G) (d : Nat) (y : MethodName) (w : Cond) (As : List Value) (B : State → Prop) (v : Option Value) : Prop := Met l y (w :: m_ws) (j_rm d 0 0) (va_Pc As B) (k_Q v) 0 0 (j_A G)
/-- the text at a, its bytes at v -/
def k_B (G : j_G) (a v n : Nat) (f : Nat → Int32) (U : State) : Prop := va_O "java/lang/String" a (j_A G) U U.heap ∧ va_OF "java/lang/String" "coder" "B" (.int 0) a (j_A G) U U.heap ∧ va_OF "java/lang/String" "value" "[B" (.ref v) a (j_A G) U U.heap ∧ va_T .byte v n (fun j => .int (f j)) (j_A G) U U.heap ∧
  va_Z "java/lang/String" "COMPACT_STRINGS" "Z" (.int 1) (j_A G) U U.heap ∧ va_Zq "jdk/internal/util/Preconditions" "SIOOBE_FORMATTER" "Ljava/util/function/BiFunction;" (j_A G) U U.heap
theorem k_B.move {G : j_G} {a v n : Nat} {f : Nat → Int32} {s U : State} (h : k_B G a v n f s) (hW : s.WarmedH U.vm) (hq : ∀ x : Nat, x < s.heap.size → ¬ j_A G x → U.heap[x]? = s.heap[x]?) : k_B G a v n f U := by
  obtain ⟨h1, h2, h3, h4, h5, h6⟩ := h
  exact ⟨(va_O.moved hW.alike h1).kept hq, (va_OF.moved hW.alike h2).kept hq, (va_OF.moved hW.alike h3).kept hq, (va_T.moved hW.alike h4).kept hq, (va_Z.moved hW.alike h5).kept hq, (va_Zq.moved hW.alike h6).kept hq⟩
theorem k_blind {G : j_G} {a v n : Nat} {f : Nat → Int32} {As : List Value} : FrameBlind (va_Pc As (k_B G a v n f)) := by
  intro x U g mk h
  exact ⟨h.1, h.2.move (U := U.calling g mk x) (State.WarmedH.refl U) (fun _ _ _ => rfl)⟩
section JB
variable {p : Program} {l : Launch} {e : Env} {R : Room} {s : State} {mid : MethodId} {args : Array Value} {below : List Frame} {meth : Method} {c : Code} {H : Heap} {locs : List Loc} {cells slots : Nat} {Q : State → Prop}
variable {G : j_G} {nL pc ix d mxy : Nat} {cd cdy : ByteArray} {rty : Option FieldType} {JL : Array Slot} {st0 rest As : List Value} {v : Option Value} {y : MethodName} {own : String} {B : State → Prop}
theorem k_of (hp : plainFor y = true) (hl : (lg_sl As).length ≤ mxy)
    (body : ∀ (p : Program) (e : Env) (s : State) (mid : MethodId) (args : Array Value) (below : List Frame) (meth : Method) (c : Code) (JL : Array Slot), CallFix p mid c cdy mxy s args m_ws y.cls → meth.sig.returnType = rty → meth.locks = false → lv_has JL mxy (lv_args 0 As) → B s → W p l e (j_rm d 0 0) s mid args below meth c s.heap [] 0 0 (MQ below (k_Q v) args s 0 0 (j_A G)) (F0 mid 0 JL [])) :
    k_Met l G d y (.code y cdy mxy rty) As B v := by
  refine va_MetF (cc := cdy) (maxL := mxy) (ret := rty) hp rfl ?_
  intro p e s m args below meth c s₁ Bd hml hv
  obtain ⟨rfl, hB⟩ := hv
  have hts := atoms_spec (ws := Cond.code y cdy mxy rty :: m_ws) Bd.pre
  rw [lg_entry_eq]
  exact body p e s m _ below meth c _ ⟨Bd.exec, Bd.bytes, hml, findClass_of_methodNamed Bd.named, fun w h => hts w (List.mem_cons_of_mem _ h)⟩ Bd.returns Bd.notSynchronized (lv_entry As hl) hB
theorem k_callk {a : Array Value} (hr : va_Run p l e R s mid args below meth c H locs cells slots 0 0 (F0 mid pc JL st0) rest (k_Q v a) (j_A G)) (hS : va_S (j_A G) s.heap H locs)
    (kk : ∀ locs1 : List Loc, va_S (j_A G) s.heap H locs1 → W p l e R s mid args below meth c H locs1 cells slots Q (F0 mid (pc + 3) JL (v.toList ++ rest))) : W p l e R s mid args below meth c H locs cells slots Q (F0 mid pc JL st0) := by
  intro T hT X
  obtain ⟨v', st₀, t, T', L, h0, X', hL, e1, e2, ⟨hv, hh⟩, st⟩ := hr T hT X
  cases hv
  have hT' : T'.heap = H := by rw [e1, hh, h0]
  obtain ⟨t2, a1, b1⟩ := kk (locs ++ L) ⟨hS.1, hS.2.1, fun q hq => by
    rcases List.mem_append.mp hq with h | h
    · exact hS.2.2 q h
    · exact hL q h⟩ T' hT' X'
  exact ⟨t2, st t2 a1, b1⟩
theorem k_V {a a0 v0 n : Nat} {f : Nat → Int32} {Bs : List Value} (S : CallFix p mid c cd nL s args m_ws own) (Mt : k_Met l G d y (.code y cdy mxy rty) (.ref a :: Bs) (k_B G a0 v0 n f) v) (hw1 : ∀ w ∈ wsV own ix y.cls y [Cond.code y cdy mxy rty], w ∈ m_ws)
    (hd : y.cls ≠ "java/lang/invoke/MethodHandle" ∧ y.cls ≠ "java/lang/invoke/VarHandle" ∧ (parseMethodDescriptor y.desc).map (fun d => d.parameters.length) = some Bs.length) (hR : d + 1 ≤ R.frames ∧ 8 + (mxy + 11) + 40 * d ≤ R.locals) (hB : k_B G a0 v0 n f s) (hS : va_S (j_A G) s.heap H locs)
    (hrv : ∃ cell : Cell, H[a]? = some cell ∧ cell.vm.isStatics = false ∧ s.vm.findClass y.cls = some cell.cls) (hsz : JL.size = nL) (hs : (rest.map fun v => v.category).sum ≤ 8) (hdg : decode cd pc = .ok (.invokevirtual ix, 3)) (hc : cells ≤ R.cells ∧ slots ≤ R.slots)
    (kk : ∀ locs1 : List Loc, va_S (j_A G) s.heap H locs1 → W p l e R s mid args below meth c H locs1 cells slots Q (F0 mid (pc + 3) JL (v.toList ++ rest))) : W p l e R s mid args below meth c H locs cells slots Q (F0 mid pc JL (Bs.reverse ++ .ref a :: rest)) := by
  have hw : ∀ w ∈ wsV own ix y.cls y (Cond.code y cdy mxy rty :: m_ws), w ∈ m_ws := by
    intro w hw'
    rcases List.mem_append.mp hw' with h | h
    · exact hw1 w (List.mem_append.mpr (Or.inl h))
    · rcases List.mem_cons.mp h with rfl | h
      · exact hw1 _ (List.mem_append.mpr (Or.inr List.mem_cons_self))
      · exact h
  exact k_callk (va_runV S Mt (cwV Bs.length S.2.2.2.2 (j_gi hw) rfl rfl rfl ⟨rfl, hd⟩ hR) ⟨k_blind, hrv, fun U hU hW => ⟨rfl, hB.move hW (fun x h1 h2 => by rw [hU]; exact hS.2.1 x h1 h2)⟩⟩ rfl rfl hsz rfl (by show 2 * 0 + _ ≤ 8; omega) hdg hc) hS kk
theorem k_S {a0 v0 n : Nat} {f : Nat → Int32} (S : CallFix p mid c cd nL s args m_ws own) (Mt : k_Met l G d y (.code y cdy mxy rty) As (k_B G a0 v0 n f) v) (hw1 : ∀ w ∈ [Cond.methodLink own ix y, .static y, .initialized y.cls, .code y cdy mxy rty], w ∈ m_ws)
    (hd : y.cls ≠ "java/lang/invoke/MethodHandle" ∧ y.cls ≠ "java/lang/invoke/VarHandle" ∧ (parseMethodDescriptor y.desc).map (fun d => d.parameters.length) = some As.length) (hR : d + 1 ≤ R.frames ∧ 8 + (mxy + 11) + 40 * d ≤ R.locals) (hB : k_B G a0 v0 n f s) (hS : va_S (j_A G) s.heap H locs)
    (hsz : JL.size = nL) (hs : (rest.map fun v => v.category).sum ≤ 8) (hdg : decode cd pc = .ok (.invokestatic ix, 3)) (hc : cells ≤ R.cells ∧ slots ≤ R.slots)
    (kk : ∀ locs1 : List Loc, va_S (j_A G) s.heap H locs1 → W p l e R s mid args below meth c H locs1 cells slots Q (F0 mid (pc + 3) JL (v.toList ++ rest))) : W p l e R s mid args below meth c H locs cells slots Q (F0 mid pc JL (As.reverse ++ rest)) := by
  have hG : ∀ w ∈ Cond.code y cdy mxy rty :: m_ws, w ∈ m_ws := by
    intro w h
    rcases List.mem_cons.mp h with rfl | h
    · exact hw1 _ (by simp)
    · exact h
  have ok : ∀ w ∈ [Cond.methodLink own ix y, .static y, .initialized y.cls, .code y cdy mxy rty], w.before args s = true := fun w h => S.2.2.2.2 w (hw1 w h)
  exact k_callk (va_runS S Mt ⟨callB_of As.length S.2.2.2.2 (j_gi hG) rfl rfl rfl (ok _ (by simp)) (ok _ (by simp)) hd hR, ok _ (by simp)⟩ ⟨k_blind, fun U hU hW => ⟨rfl, hB.move hW (fun x h1 h2 => by rw [hU]; exact hS.2.1 x h1 h2)⟩⟩ rfl rfl hsz rfl (by show 2 * 0 + _ ≤ 8; omega) hdg hc) hS kk
end JB
section JC
variable {l : Launch} {G : j_G} {a v n : Nat} {f : Nat → Int32}
theorem k_recv {s : State} {H : Heap} {locs : List Loc} (hB : k_B G a v n f s) (hS : va_S (j_A G) s.heap H locs) : ∃ cell : Cell, H[a]? = some cell ∧ cell.vm.isStatics = false ∧ s.vm.findClass "java/lang/String" = some cell.cls := by
  obtain ⟨cell, h1, h2, h3, -⟩ := hB.1.kept hS.2.1
  exact ⟨cell, h1, h2, h3⟩
theorem k_coder (d : Nat) : k_Met l G d yJ0_coder_7d493 (.code yJ0_coder_7d493 cJ0_coder_7d493 1 (some .byte)) [.ref a] (k_B G a v n f) (some (.int 0)) := by
  refine k_of (by decide +kernel) (Nat.le_of_ble_eq_true rfl) ?_
  intro p e s mid args below meth c JL S hr hlk hl hB
  obtain ⟨hx, hb, hml, ho, hw⟩ := S
  obtain ⟨b1, b2, b3, b4, b5, b6⟩ := hB
  have hS : va_S (j_A G) s.heap s.heap [] := va_S.rf
  refine va_gets hx hb b5 hS ho (hw _ (k_in 26 rfl)) (fun _ h => h) (by decide +kernel) ?_
  refine lv_if_eq (off := 10) (tgt := 13) hx hb (by decide +kernel) rfl (fun h => absurd h (by decide)) fun _ => ?_
  refine lv_aload_n hx hb (k := 0) (by decide +kernel) rfl (lv_at hl 0 rfl) ?_
  refine vk_getf hx hb b2 hS ho (hw _ (k_in 27 rfl)) (fun _ h => h) (by decide +kernel) ?_
  refine lv_goto (off := 4) (tgt := 14) hx hb (by decide +kernel) rfl ?_
  exact W.zret hx hb hr rfl (fun t ht hW => ⟨rfl, ht⟩) (fun q h => nomatch h) (by decide +kernel) hlk
theorem k_latin (d : Nat) : k_Met l G d yJ0_isLatin1_aae02 (.code yJ0_isLatin1_aae02 cJ0_isLatin1_aae02 1 (some .boolean)) [.ref a] (k_B G a v n f) (some (.int 1)) := by
  refine k_of (by decide +kernel) (Nat.le_of_ble_eq_true rfl) ?_
  intro p e s mid args below meth c JL S hr hlk hl hB
  obtain ⟨hx, hb, hml, ho, hw⟩ := S
  obtain ⟨b1, b2, b3, b4, b5, b6⟩ := hB
  have hS : va_S (j_A G) s.heap s.heap [] := va_S.rf
  refine va_gets hx hb b5 hS ho (hw _ (k_in 26 rfl)) (fun _ h => h) (by decide +kernel) ?_
  refine lv_if_eq (off := 14) (tgt := 17) hx hb (by decide +kernel) rfl (fun h => absurd h (by decide)) fun _ => ?_
  refine lv_aload_n hx hb (k := 0) (by decide +kernel) rfl (lv_at hl 0 rfl) ?_
  refine vk_getf hx hb b2 hS ho (hw _ (k_in 27 rfl)) (fun _ h => h) (by decide +kernel) ?_
  refine lv_if_ne (off := 7) (tgt := 17) hx hb (by decide +kernel) rfl (fun h => absurd rfl h) fun _ => ?_
  refine lv_iconst (n := 1) (v := 1) hx hb (by decide +kernel) rfl ?_
  refine lv_goto (off := 4) (tgt := 18) hx hb (by decide +kernel) rfl ?_
  exact W.zret hx hb hr rfl (fun t ht hW => ⟨rfl, ht⟩) (fun q h => nomatch h) (by decide +kernel) hlk
theorem k_len (d : Nat) : k_Met l G (d + 1) yJ0_length_8abf5 (.code yJ0_length_8abf5 cJ0_length_8abf5 1 (some .int)) [.ref a] (k_B G a v n f) (some (.int (Int32.ofNat n))) := by
  refine k_of (by decide +kernel) (Nat.le_of_ble_eq_true rfl) ?_
  intro p e s mid args below meth c JL S hr hlk hl hB
  have S0 := S
  have hB0 := hB
  obtain ⟨hx, hb, hml, ho, hw⟩ := S
  obtain ⟨b1, b2, b3, b4, b5, b6⟩ := hB
  have hS : va_S (j_A G) s.heap s.heap [] := va_S.rf
  refine lv_aload_n hx hb (k := 0) (by decide +kernel) rfl (lv_at hl 0 rfl) ?_
  refine vk_getf hx hb b3 hS ho (hw _ (k_in 28 rfl)) (fun _ h => h) (by decide +kernel) ?_
  refine va_tlen hx hb b4 hS rfl (by decide +kernel) ?_
  refine lv_aload_n hx hb (k := 0) (by decide +kernel) rfl (lv_at hl 0 rfl) ?_
  refine k_V (Bs := []) (ix := 335) S0 (k_coder (l := l) (G := G) (a := a) (v := v) (n := n) (f := f) d) (fun w h => ?_) (by decide +kernel) ⟨Nat.le_refl _, by show 8 + (1 + 11) + 40 * d ≤ 40 * (d + 1); omega⟩ hB0 hS (k_recv hB0 hS) hl.1 (Nat.le_of_ble_eq_true rfl) (by decide +kernel) ⟨Nat.zero_le _, Nat.zero_le _⟩ fun locs1 hS1 => ?_
  · rcases List.mem_cons.mp h with rfl | h
    · exact k_in 0 rfl
    rcases List.mem_cons.mp h with rfl | h
    · exact k_in 1 rfl
    rcases List.mem_cons.mp h with rfl | h
    · exact k_in 2 rfl
    rcases List.mem_cons.mp h with rfl | h
    · exact k_in 3 rfl
    rcases List.mem_cons.mp h with rfl | h
    · exact k_in 4 rfl
    · cases h
  · refine lv_ishr hx hb (by decide +kernel) ?_
    have e0 : Int32.ofNat n >>> ((0 : Int32) &&& 31) = Int32.ofNat n := by
      rw [show (0 : Int32) &&& 31 = 0 from rfl]
      exact Int32.shiftRight_zero
    rw [e0]
    exact W.iret hx hb hr (fun t ht hW => ⟨rfl, ht⟩) hS1.2.2 (by decide +kernel) hlk
theorem k_chk3 {i m : Int32} {z : Value} (hz : z.category = 1) (h1 : ¬ i < 0) (h2 : i < m) (d : Nat) : k_Met l G d yJ3_checkIndex_8e157 (.code yJ3_checkIndex_8e157 cJ3_checkIndex_8e157 3 (some .int)) [.int i, .int m, z] (k_B G a v n f) (some (.int i)) := by
  refine k_of (by decide +kernel) (by cases z <;> first | exact Nat.le_of_ble_eq_true rfl | (simp [Value.category] at hz)) ?_
  intro p e s mid args below meth c JL S hr hlk hl hB
  obtain ⟨hx, hb, hml, ho, hw⟩ := S
  refine lv_iload_n hx hb (k := 0) (by decide +kernel) rfl (lv_at hl 0 rfl) ?_
  refine lv_if_lt (off := 8) (tgt := 9) hx hb (by decide +kernel) rfl (fun h => absurd h h1) fun _ => ?_
  refine lv_iload_n hx hb (k := 0) (by decide +kernel) rfl (lv_at hl 0 rfl) ?_
  refine lv_iload_n hx hb (k := 1) (by decide +kernel) rfl (lv_at hl 1 rfl) ?_
  refine lv_icmp_lt (off := 10) (tgt := 16) hx hb (by decide +kernel) rfl (fun _ => ?_) (fun h => absurd h2 h)
  refine lv_iload_n hx hb (k := 0) (by decide +kernel) rfl (lv_at hl 0 rfl) ?_
  exact W.iret hx hb hr (fun t ht hW => ⟨rfl, ht⟩) (fun q h => nomatch h) (by decide +kernel) hlk
theorem k_chk {i m : Int32} (h1 : ¬ i < 0) (h2 : i < m) (d : Nat) : k_Met l G (d + 1) yJ0_checkIndex_df160 (.code yJ0_checkIndex_df160 cJ0_checkIndex_df160 2 none) [.int i, .int m] (k_B G a v n f) none := by
  refine k_of (by decide +kernel) (Nat.le_of_ble_eq_true rfl) ?_
  intro p e s mid args below meth c JL S hr hlk hl hB
  have S0 := S
  have hB0 := hB
  obtain ⟨hx, hb, hml, ho, hw⟩ := S
  obtain ⟨b1, b2, b3, b4, b5, b6⟩ := hB
  have hS : va_S (j_A G) s.heap s.heap [] := va_S.rf
  have hz : ∃ z : Value, z.category = 1 ∧ va_Z "jdk/internal/util/Preconditions" "SIOOBE_FORMATTER" "Ljava/util/function/BiFunction;" z (j_A G) s s.heap := by
    rcases b6 with h | ⟨t, h⟩
    · exact ⟨_, rfl, h⟩
    · exact ⟨_, rfl, h⟩
  obtain ⟨z, hz1, hz2⟩ := hz
  refine lv_iload_n hx hb (k := 0) (by decide +kernel) rfl (lv_at hl 0 rfl) ?_
  refine lv_iload_n hx hb (k := 1) (by decide +kernel) rfl (lv_at hl 1 rfl) ?_
  refine va_gets hx hb hz2 hS ho (hw _ (k_in 29 rfl)) (fun _ h => h) (by decide +kernel) ?_
  refine k_S (As := [.int i, .int m, z]) (rest := []) (ix := 1059) S0 (k_chk3 (l := l) (G := G) (a := a) (v := v) (n := n) (f := f) hz1 h1 h2 d) (fun w h => ?_) (show yJ3_checkIndex_8e157.cls ≠ "java/lang/invoke/MethodHandle" ∧ yJ3_checkIndex_8e157.cls ≠ "java/lang/invoke/VarHandle" ∧ (parseMethodDescriptor yJ3_checkIndex_8e157.desc).map (fun d => d.parameters.length) = some 3 by decide +kernel) ⟨Nat.le_refl _, by show 8 + (3 + 11) + 40 * d ≤ 40 * (d + 1); omega⟩ hB0 hS hl.1 (Nat.le_of_ble_eq_true rfl) (by decide +kernel) ⟨Nat.zero_le _, Nat.zero_le _⟩ fun locs1 hS1 => ?_
  · rcases List.mem_cons.mp h with rfl | h
    · exact k_in 22 rfl
    rcases List.mem_cons.mp h with rfl | h
    · exact k_in 23 rfl
    rcases List.mem_cons.mp h with rfl | h
    · exact k_in 24 rfl
    rcases List.mem_cons.mp h with rfl | h
    · exact k_in 25 rfl
    · cases h
  · refine lv_pop hx hb (by decide +kernel) rfl ?_
    exact W.vret hx hb hr (fun t ht hW => ⟨rfl, ht⟩) hS1.2.2 (by decide +kernel) hlk
/-- the bytes are letters: read as a char, each is itself -/
def k_asc (n : Nat) (f : Nat → Int32) : Prop := ∀ j, j < n → ((f j &&& 255).toUInt32 % 65536).toInt32 = f j ∧ narrow .char (.int (f j)) = .int (f j)
theorem k_ch1 {i : Int32} (hf : k_asc n f) (hn : n < 2 ^ 31) (hi : m_in i n = true) (d : Nat) : k_Met l G (d + 2) yJ1_charAt_3b067 (.code yJ1_charAt_3b067 cJ1_charAt_3b067 2 (some .char)) [.ref v, .int i] (k_B G a v n f) (some (.int (f i.toNatClampNeg))) := by
  refine k_of (by decide +kernel) (Nat.le_of_ble_eq_true rfl) ?_
  intro p e s mid args below meth c JL S hr hlk hl hB
  have S0 := S
  have hB0 := hB
  obtain ⟨hx, hb, hml, ho, hw⟩ := S
  obtain ⟨b1, b2, b3, b4, b5, b6⟩ := hB
  have hS : va_S (j_A G) s.heap s.heap [] := va_S.rf
  have hi2 : ¬ (i < 0 ∨ n ≤ i.toNatClampNeg) := of_decide_eq_true hi
  have hi0 : ¬ i < 0 := fun h => hi2 (Or.inl h)
  have hlt : i.toNatClampNeg < n := Nat.not_le.mp fun h => hi2 (Or.inr h)
  have hi3 : i < Int32.ofNat n := by
    rw [Int32.lt_iff_toInt_lt, Int32.toInt_ofNat_of_lt hn]
    have h0 : (0 : Int) ≤ i.toInt := by
      have := Int32.not_lt.mp hi0
      simpa using Int32.le_iff_toInt_le.mp this
    have h1 : i.toNatClampNeg = i.toInt.toNat := rfl
    omega
  refine lv_iload_n hx hb (k := 1) (by decide +kernel) rfl (lv_at hl 1 rfl) ?_
  refine lv_aload_n hx hb (k := 0) (by decide +kernel) rfl (lv_at hl 0 rfl) ?_
  refine va_tlen hx hb b4 hS rfl (by decide +kernel) ?_
  refine k_S (As := [.int i, .int (Int32.ofNat n)]) (rest := []) (ix := 9) S0 (k_chk (l := l) (G := G) (a := a) (v := v) (n := n) (f := f) hi0 hi3 d) (fun w h => ?_) (show yJ0_checkIndex_df160.cls ≠ "java/lang/invoke/MethodHandle" ∧ yJ0_checkIndex_df160.cls ≠ "java/lang/invoke/VarHandle" ∧ (parseMethodDescriptor yJ0_checkIndex_df160.desc).map (fun d => d.parameters.length) = some 2 by decide +kernel) ⟨Nat.le_refl _, by show 8 + (2 + 11) + 40 * (d + 1) ≤ 40 * (d + 2); omega⟩ hB0 hS hl.1 (Nat.le_of_ble_eq_true rfl) (by decide +kernel) ⟨Nat.zero_le _, Nat.zero_le _⟩ fun locs1 hS1 => ?_
  · rcases List.mem_cons.mp h with rfl | h
    · exact k_in 19 rfl
    rcases List.mem_cons.mp h with rfl | h
    · exact k_in 20 rfl
    rcases List.mem_cons.mp h with rfl | h
    · exact k_in 3 rfl
    rcases List.mem_cons.mp h with rfl | h
    · exact k_in 21 rfl
    · cases h
  · refine lv_aload_n hx hb (k := 0) (by decide +kernel) rfl (lv_at hl 0 rfl) ?_
    refine lv_iload_n hx hb (k := 1) (by decide +kernel) rfl (lv_at hl 1 rfl) ?_
    obtain ⟨cell, t1, t2, t3, t4, t5, t6, t7⟩ := b4
    have q8 : decode cJ1_charAt_3b067 8 = .ok (.baload, 1) := by decide +kernel
    have q9 : decode cJ1_charAt_3b067 9 = .ok (.sipush 255, 3) := by decide +kernel
    have qc : decode cJ1_charAt_3b067 12 = .ok (.iand, 1) := by decide +kernel
    have qd : decode cJ1_charAt_3b067 13 = .ok (.i2c, 1) := by decide +kernel
    have qe : decode cJ1_charAt_3b067 14 = .ok (.ireturn, 1) := by decide +kernel
    refine W.bald (v := .int (f i.toNatClampNeg)) hx hb t1 t2 t3 (fun h => ?_) (t6 _ hlt) rfl rfl q8 ?_
    · rcases h with h | h
      · exact hi0 h
      · omega
    refine lv_sipush (n := 255) (v := 255) hx hb q9 rfl ?_
    refine lv_iand hx hb qc ?_
    refine lv_i2c hx hb qd (hf _ hlt).1 ?_
    exact W.zret hx hb hr (hf _ hlt).2 (fun t ht hW => ⟨rfl, ht⟩) hS1.2.2 qe hlk
theorem k_ch {i : Int32} (hf : k_asc n f) (hn : n < 2 ^ 31) (hi : m_in i n = true) (d : Nat) : k_Met l G (d + 3) yJ0_charAt_5068e (.code yJ0_charAt_5068e cJ0_charAt_5068e 2 (some .char)) [.ref a, .int i] (k_B G a v n f) (some (.int (f i.toNatClampNeg))) := by
  refine k_of (by decide +kernel) (Nat.le_of_ble_eq_true rfl) ?_
  intro p e s mid args below meth c JL S hr hlk hl hB
  have S0 := S
  have hB0 := hB
  obtain ⟨hx, hb, hml, ho, hw⟩ := S
  obtain ⟨b1, b2, b3, b4, b5, b6⟩ := hB
  have hS : va_S (j_A G) s.heap s.heap [] := va_S.rf
  have hlt : i.toNatClampNeg < n := Nat.not_le.mp fun h => (of_decide_eq_true hi : ¬ (i < 0 ∨ n ≤ i.toNatClampNeg)) (Or.inr h)
  refine lv_aload_n hx hb (k := 0) (by decide +kernel) rfl (lv_at hl 0 rfl) ?_
  refine k_V (Bs := []) (rest := []) (ix := 492) S0 (k_latin (l := l) (G := G) (a := a) (v := v) (n := n) (f := f) (d + 2)) (fun w h => ?_) (by decide +kernel) ⟨Nat.le_refl _, by show 8 + (1 + 11) + 40 * (d + 2) ≤ 40 * (d + 3); omega⟩ hB0 hS (k_recv hB0 hS) hl.1 (Nat.le_of_ble_eq_true rfl) (by decide +kernel) ⟨Nat.zero_le _, Nat.zero_le _⟩ fun locs1 hS1 => ?_
  · rcases List.mem_cons.mp h with rfl | h
    · exact k_in 5 rfl
    rcases List.mem_cons.mp h with rfl | h
    · exact k_in 6 rfl
    rcases List.mem_cons.mp h with rfl | h
    · exact k_in 7 rfl
    rcases List.mem_cons.mp h with rfl | h
    · exact k_in 3 rfl
    rcases List.mem_cons.mp h with rfl | h
    · exact k_in 8 rfl
    · cases h
  · refine lv_if_eq (off := 12) (tgt := 16) hx hb (by decide +kernel) rfl (fun h => absurd h (by decide)) fun _ => ?_
    refine lv_aload_n hx hb (k := 0) (by decide +kernel) rfl (lv_at hl 0 rfl) ?_
    refine vk_getf hx hb b3 hS1 ho (hw _ (k_in 28 rfl)) (fun _ h => h) (by decide +kernel) ?_
    refine lv_iload_n hx hb (k := 1) (by decide +kernel) rfl (lv_at hl 1 rfl) ?_
    refine k_S (As := [.ref v, .int i]) (rest := []) (ix := 495) S0 (k_ch1 (l := l) (G := G) (a := a) (v := v) (n := n) (f := f) hf hn hi d) (fun w h => ?_) (show yJ1_charAt_3b067.cls ≠ "java/lang/invoke/MethodHandle" ∧ yJ1_charAt_3b067.cls ≠ "java/lang/invoke/VarHandle" ∧ (parseMethodDescriptor yJ1_charAt_3b067.desc).map (fun d => d.parameters.length) = some 2 by decide +kernel) ⟨Nat.le_refl _, by show 8 + (2 + 11) + 40 * (d + 2) ≤ 40 * (d + 3); omega⟩ hB0 hS1 hl.1 (Nat.le_of_ble_eq_true rfl) (by decide +kernel) ⟨Nat.zero_le _, Nat.zero_le _⟩ fun locs2 hS2 => ?_
    · rcases List.mem_cons.mp h with rfl | h
      · exact k_in 15 rfl
      rcases List.mem_cons.mp h with rfl | h
      · exact k_in 16 rfl
      rcases List.mem_cons.mp h with rfl | h
      · exact k_in 17 rfl
      rcases List.mem_cons.mp h with rfl | h
      · exact k_in 18 rfl
      · cases h
    · exact W.zret hx hb hr (hf _ hlt).2 (fun t ht hW => ⟨rfl, ht⟩) hS2.2.2 (by decide +kernel) hlk
end JC
