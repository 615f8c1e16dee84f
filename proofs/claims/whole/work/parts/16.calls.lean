/-! CALLS: a method's contract, out of one run of our machine; how a caller goes on behind it. -/
theorem j_gi {ws : List Cond} (h : ∀ w ∈ ws, w ∈ m_ws) : GoodIn m_ws ws := fun w hw => ⟨h w hw, good_of_word (List.mem_filter.mp (h w hw)).2⟩
def j_pre (G : j_G) (M : m_M) (U : State) : Prop := va_P G.2.2.2.1 vwCl (j_w G M) U.heap ∧ j_K G U ∧ j_E G U ∧ G.1 ≤ U.heap.size ∧ U.heap.size ≤ G.1 + M.2.2.1 ∧ M.2.1 ≤ 1000000
def j_Pc (G : j_G) (As : List Value) (M : m_M) : Array Value → State → Prop := va_Pc (As.map (j_v G)) (j_pre G M)
def j_Qc (G : j_G) (r : m_R) : Array Value → State → Outcome → State → Prop := fun _ st oc t => (∃ v : Option Value, r.1 = .inl v ∧ oc = .returned (v.map (j_v G))) ∧ va_P G.2.2.2.1 vwCl (j_w G r.2) t.heap ∧ r.2.2.1 ≤ 1000000 ∧ va_F (j_A G) st t
def j_XC (G : j_G) (r : m_R) : String → State → State → Prop := fun E st t => (∃ x : Nat, x < 2 ∧ r.1 = .inr x ∧ E = m_ex x) ∧ va_P G.2.2.2.1 vwCl (j_w G r.2) t.heap ∧ r.2.2.1 ≤ 1000000 ∧ va_F (j_A G) st t
def j_rm (d mc ms : Nat) : Room := { frames := d, cells := mc, slots := ms, locals := 40 * d }
noncomputable def j_ws (y : Nat) : List Cond := m_cw y :: m_ws
def j_Met (l : Launch) (G : j_G) (d y : Nat) (As : List Value) (M : m_M) (r : m_R) : Prop :=
  vx_Met l (m_y y) (j_ws y) (j_rm d (r.2.2.2.1 - M.2.2.1) (r.2.2.2.2 - M.2.2.2)) (j_Pc G As M) (j_Qc G r) (j_XC G r) (r.2.2.2.1 - M.2.2.1) (r.2.2.2.2 - M.2.2.2) (j_A G)
theorem j_blind (G : j_G) (As : List Value) (M : m_M) : FrameBlind (j_Pc G As M) := by
  intro a U g mk h
  obtain ⟨h0, h1, h2, h3, h4, h5, h6⟩ := h
  exact ⟨h0, h1, va_K.moved (u := U) (U := U.calling g mk a) (Vm.Alike.refl U.vm) h2, h3.move (U := U.calling g mk a) (State.WarmedH.refl U) (Nat.le_refl _) (fun _ _ _ => rfl), h4, h5, h6⟩
/-- more made, never fewer -/
def m_le (M M1 : m_M) : Prop := M.2.2.1 ≤ M1.2.2.1 ∧ M.2.2.2 ≤ M1.2.2.2
section J4
variable {p : Program} {l : Launch} {e : Env} {R : Room} {s : State} {mid : MethodId} {args : Array Value} {below : List Frame} {meth : Method} {c : Code} {Q : Nat → Nat → State → Prop}
variable {G : j_G} {nL c0 s0 i own : Nat} {cd : ByteArray} {rt : Option FieldType} {ini : Bool} {hh : List (Nat × Nat × Nat × Nat)} {L : List (Nat × m_I)} {ls : m_L} {st : List Value} {M : m_M}
theorem j_bound {H : Heap} {locs : List Loc} {cells slots : Nat} {Q1 : State → Prop} {g : JFrame} (k : H.size ≤ s.heap.size + cells → W p l e R s mid args below meth c H locs cells slots Q1 g) : W p l e R s mid args below meth c H locs cells slots Q1 g := by
  intro T hT X
  have h9 : T.heap.size ≤ s.heap.size + cells := X.same.2.2.1
  rw [hT] at h9
  exact k h9 T hT X
theorem j_callk {H : Heap} {locs : List Loc} {cells slots mc ms pc : Nat} {Q1 : State → Prop} {JL : Array Slot} {st0 rest : List Value} {r : m_R} {a : Array Value} (hr : vx_Run p l e R s mid args below meth c H locs cells slots mc ms (F0 mid pc JL st0) rest (j_Qc G r a) (j_XC G r) (j_A G)) (hS : va_S (j_A G) s.heap H locs)
    (kx : ∀ x : Nat, x < 2 → r.1 = .inr x → ∀ (ce : Cell) (q9 : Addr) (H1 : Heap) (locs1 : List Loc), va_P G.2.2.2.1 vwCl (j_w G r.2) H1 → r.2.2.1 ≤ 1000000 → va_S (j_A G) s.heap H1 locs1 → H1[q9]? = some ce → ce.vm = .none → s.vm.findClass (m_ex x) = some ce.cls → vx_W p l e R s mid args below meth c H1 locs1 (cells + mc) (slots + ms) Q1 (F0 mid pc JL rest) q9)
    (kk : ∀ v : Option Value, r.1 = .inl v → ∀ (H1 : Heap) (locs1 : List Loc), va_P G.2.2.2.1 vwCl (j_w G r.2) H1 → r.2.2.1 ≤ 1000000 → va_S (j_A G) s.heap H1 locs1 → W p l e R s mid args below meth c H1 locs1 (cells + mc) (slots + ms) Q1 (F0 mid (pc + 3) JL ((v.map (j_v G)).toList ++ rest))) : W p l e R s mid args below meth c H locs cells slots Q1 (F0 mid pc JL st0) := by
  intro T hT X
  rcases hr T hT X with ⟨v, st₀, t, T', L, h0, X', hL, e1, e2, ⟨⟨w, hv, ho⟩, hP, hN, hF⟩, st⟩ | ⟨q, st₀, t, T', L, E, ce, h0, X', hL, e1, e2, ⟨⟨x, hx2, hx, hE⟩, hP, hN, hF⟩, hce, hcv, hcl, st⟩
  · cases ho
    obtain ⟨k1, k2, k3⟩ := vx_keep h0 e1 hS (fun q _ h => h) (fun q h => h) hL hF
    obtain ⟨t2, a1, b1⟩ := kk w hv T'.heap (locs ++ L) (by rw [e1]; exact hP) hN k3 T' rfl X'
    exact ⟨t2, st t2 a1, b1⟩
  · subst hE
    obtain ⟨k1, k2, k3⟩ := vx_keep h0 e1 hS (fun q _ h => h) (fun q h => h) hL hF
    obtain ⟨t2, a1, b1⟩ := kx x hx2 hx ce q T'.heap (locs ++ L) (by rw [e1]; exact hP) hN k3 (by rw [e1]; exact hce) hcv hcl T' rfl X'
    exact ⟨t2, st.trans a1, b1⟩
/-- x was thrown at place i -/
def j_X (p : Program) (l : Launch) (e : Env) (R : Room) (s : State) (mid : MethodId) (args : Array Value) (below : List Frame) (meth : Method) (c : Code) (Q : Nat → Nat → State → Prop) (G : j_G) (nL c0 s0 : Nat) (L : List (Nat × m_I)) (i : Nat) (ls : m_L) (st : List Value) (M : m_M) (x : Nat) : Prop :=
  ∀ (JL : Array Slot) (H : Heap) (locs : List Loc) (cells slots : Nat) (ce : Cell) (q9 : Addr), j_I G s M c0 s0 H locs cells slots → j_LS G ls nL JL → H[q9]? = some ce → ce.vm = .none → s.vm.findClass (m_ex x) = some ce.cls → vx_W p l e R s mid args below meth c H locs cells slots (Q c0 s0) (F0 mid (m_pc L i) JL (st.map (j_v G))) q9
theorem i_run {As : List Value} {r : m_R} {a : Array Value} (hm : m_le M r.2) (hn : m_pc L (i + 1) = m_pc L i + 3)
    (hrun : ∀ (JL : Array Slot) (H : Heap) (locs : List Loc) (cells slots : Nat), j_I G s M c0 s0 H locs cells slots → j_LS G ls nL JL → H.size ≤ s.heap.size + cells → vx_Run p l e R s mid args below meth c H locs cells slots (r.2.2.2.1 - M.2.2.1) (r.2.2.2.2 - M.2.2.2) (F0 mid (m_pc L i) JL ((As.reverse ++ st).map (j_v G))) (st.map (j_v G)) (j_Qc G r a) (j_XC G r) (j_A G))
    (kx : ∀ x : Nat, x < 2 → r.1 = .inr x → j_X p l e R s mid args below meth c Q G nL c0 s0 L i ls st r.2 x)
    (kk : ∀ v : Option Value, r.1 = .inl v → j_P p l e R s mid args below meth c Q G nL c0 s0 L (i + 1) ls (v.toList ++ st) r.2) : j_P p l e R s mid args below meth c Q G nL c0 s0 L i ls (As.reverse ++ st) M := by
  intro JL H locs cells slots hI hL
  refine j_bound fun hz => ?_
  obtain ⟨m1, m2⟩ := hm
  obtain ⟨i1, i2, i3, i4, i5⟩ := hI
  refine j_callk (hrun JL H locs cells slots ⟨i1, i2, i3, i4, i5⟩ hL hz) i2 (fun x hx2 hx ce q9 H1 locs1 hP hN hS hce hcv hcl => ?_) (fun v hv H1 locs1 hP hN hS => ?_)
  · exact kx x hx2 hx JL H1 locs1 _ _ ce q9 ⟨hP, hS, hN, by omega, by omega⟩ hL hce hcv hcl
  · have k9 := kk v hv JL H1 locs1 (cells + (r.2.2.2.1 - M.2.2.1)) (slots + (r.2.2.2.2 - M.2.2.2)) ⟨hP, hS, hN, by omega, by omega⟩ hL
    rw [hn, List.map_append] at k9
    cases v <;> exact k9
/-- room for a call with d frames -/
def j_RC (R : Room) (d : Nat) (r : m_R) (c0 s0 : Nat) : Prop := d + 1 ≤ R.frames ∧ 40 * (d + 1) ≤ R.locals ∧ r.2.2.2.1 ≤ c0 + R.cells ∧ r.2.2.2.2 ≤ s0 + R.slots
theorem j_pre_of (K : j_K G s) (E : j_E G s) (hB : G.1 ≤ s.heap.size ∧ s.heap.size ≤ G.1 + c0) {H : Heap} {locs : List Loc} {cells slots : Nat} (hI : j_I G s M c0 s0 H locs cells slots) (hz : H.size ≤ s.heap.size + cells) {U : State} (hU : U.heap = H) (hW : s.WarmedH U.vm) : j_pre G M U := by
  obtain ⟨i1, i2, i3, i4, i5⟩ := hI
  refine ⟨by rw [hU]; exact i1, va_K.moved hW.alike K, E.move hW (by rw [hU]; exact i2.1) (fun a h1 h2 => by rw [hU]; exact i2.2.1 a h1 h2), ?_, ?_, i3⟩
  · rw [hU]
    exact Nat.le_trans hB.1 i2.1
  · rw [hU]
    omega
theorem j_plain : ∀ c : Nat, c < 10 → m_cn c ≠ "java/lang/invoke/MethodHandle" ∧ m_cn c ≠ "java/lang/invoke/VarHandle" ∧ plainName (m_cn c) = true := by
  intro c hc
  have h : ((List.range 10).all fun c => decide (m_cn c ≠ "java/lang/invoke/MethodHandle" ∧ m_cn c ≠ "java/lang/invoke/VarHandle" ∧ plainName (m_cn c) = true)) = true := by decide +kernel
  exact of_decide_eq_true (List.all_eq_true.mp h c (List.mem_range.mpr hc))
/-- what is known of method y (but the law's own): its words, its name, how many it takes -/
def j_y (y : Nat) : Prop := m_cw y ∈ m_ws ∧ (m_y y).cls = m_cn (m_ow y) ∧ m_ow y < 10 ∧ Cond.initialized (m_y y).cls ∈ m_ws ∧ m_mx y ≤ 21
theorem j_cw {y : Nat} (h : m_hh y = []) : m_cw y = .code (m_y y) (m_cd y) (m_mx y) (m_rt y) := by
  unfold m_cw
  rw [h]
theorem i_callV (F : j_F p l s mid args meth c own cd nL rt ini hh) (K : j_K G s) (E : j_E G s) (hB : G.1 ≤ s.heap.size ∧ s.heap.size ≤ G.1 + c0) {ix y b d : Nat} {Bs fs : List Value} {r : m_R} (hd : m_dc cd (m_pc L i) (.invokevirtual ix) 3) (hn : m_pc L (i + 1) = m_pc L i + 3) (hl : (own, (ix, y)) ∈ m_ml) (hin : y ∈ m_inl) (hse : y ∈ m_sel) (h0 : m_hh y = []) (Y : j_y y)
    (hb : b < M.2.1) (hM : M.1 b = .inr (m_ow y, fs)) (h9 : m_ow y < 9) (hp : (parseMethodDescriptor (m_y y).desc).map (fun d => d.parameters.length) = some Bs.length) (hs : m_cats st ≤ 8) (hR : j_RC R d r c0 s0) (hm : m_le M r.2) (Mt : j_Met l G d y (.ref b :: Bs) M r)
    (kx : ∀ x : Nat, x < 2 → r.1 = .inr x → j_X p l e R s mid args below meth c Q G nL c0 s0 L i ls st r.2 x)
    (kk : ∀ v : Option Value, r.1 = .inl v → j_P p l e R s mid args below meth c Q G nL c0 s0 L (i + 1) ls (v.toList ++ st) r.2) : j_P p l e R s mid args below meth c Q G nL c0 s0 L i ls ((.ref b :: Bs).reverse ++ st) M := by
  obtain ⟨hx, hb', hml, ho, hw, -⟩ := F
  obtain ⟨r1, r2, r3, r4⟩ := hR
  obtain ⟨y1, y2, y3, y4, y5⟩ := Y
  obtain ⟨n1, n2, -⟩ := j_plain _ y3
  obtain ⟨m1, m2⟩ := id hm
  refine i_run (a := (Value.ref (G.1 + b) :: Bs.map (j_v G)).toArray) hm hn (fun JL H locs cells slots hI hL hz => ?_) kx kk
  have hI0 := hI
  obtain ⟨i1, i2, i3, i4, i5⟩ := hI
  have he : (j_w G M)[b]? = some (G.1 + b, .inr (m_ow y, fs.map (j_v G))) := by rw [j_get hb, hM]; rfl
  have hcl : (m_vc (m_ow y)).1 = (m_y y).cls := by rw [q_nm h9, y2]
  have hrv := va_recv K i1 (q_vc h9) he
  rw [hcl] at hrv
  have hst : (((.ref b :: Bs).reverse ++ st).map (j_v G)) = (Bs.map (j_v G)).reverse ++ .ref (G.1 + b) :: st.map (j_v G) := by
    rw [List.reverse_cons, List.append_assoc, List.map_append, List.map_reverse]
    show (Bs.map (j_v G)).reverse ++ (Value.ref (j_ad G b) :: st.map (j_v G)) = _
    rw [j_at hI0 hb]
  rw [hst]
  have hws : ∀ w ∈ wsV (m_cn own) ix (m_y y).cls (m_y y) (j_ws y), w ∈ m_ws := by
    intro w hw'
    rcases List.mem_append.mp hw' with h | h
    · rcases List.mem_cons.mp h with rfl | h
      · exact m_ml_ok _ hl
      rcases List.mem_cons.mp h with rfl | h
      · exact m_in_ok _ hin
      rcases List.mem_cons.mp h with rfl | h
      · exact m_se_ok _ hse
      rcases List.mem_cons.mp h with rfl | h
      · exact y4
      · cases h
    · rcases List.mem_cons.mp h with rfl | h
      · exact y1
      · exact h
  have hcw : j_ws y = Cond.code (m_y y) (m_cd y) (m_mx y) (m_rt y) :: m_ws := by unfold j_ws; rw [j_cw h0]
  refine vx_runV (As := Bs.map (j_v G)) ⟨hx, hb', hml, ho, hw⟩ Mt (cwV Bs.length hw (j_gi hws) hcw rfl rfl ⟨rfl, by rw [y2]; exact n1, by rw [y2]; exact n2, hp⟩ ⟨r1, by show 8 + (m_mx y + 11) + 40 * d ≤ _; omega⟩) ⟨j_blind G _ M, hrv, fun U hU hW => ⟨?_, j_pre_of K E hB hI0 hz hU hW⟩⟩ rfl (by rw [List.length_map]) hL.1.1 rfl (lv_room (by rw [i_cats]; exact hs)) hd ⟨by omega, by omega⟩
  show (Value.ref (G.1 + b) :: Bs.map (j_v G)).toArray = (Value.ref (j_ad G b) :: Bs.map (j_v G)).toArray
  rw [j_at hI0 hb]
theorem j_st (G : j_G) (As st : List Value) : ((As.reverse ++ st).map (j_v G)) = (As.map (j_v G)).reverse ++ st.map (j_v G) := by
  rw [List.map_append, List.map_reverse]
theorem i_callS (F : j_F p l s mid args meth c own cd nL rt ini hh) (K : j_K G s) (E : j_E G s) (hB : G.1 ≤ s.heap.size ∧ s.heap.size ≤ G.1 + c0) {ix y d : Nat} {As : List Value} {r : m_R} (hd : m_dc cd (m_pc L i) (.invokestatic ix) 3) (hn : m_pc L (i + 1) = m_pc L i + 3) (hl : (own, (ix, y)) ∈ m_ml) (hst : y ∈ m_stl) (Y : j_y y)
    (hp : (parseMethodDescriptor (m_y y).desc).map (fun d => d.parameters.length) = some As.length) (hs : m_cats st ≤ 8) (hR : j_RC R d r c0 s0) (hm : m_le M r.2) (Mt : j_Met l G d y As M r)
    (kx : ∀ x : Nat, x < 2 → r.1 = .inr x → j_X p l e R s mid args below meth c Q G nL c0 s0 L i ls st r.2 x)
    (kk : ∀ v : Option Value, r.1 = .inl v → j_P p l e R s mid args below meth c Q G nL c0 s0 L (i + 1) ls (v.toList ++ st) r.2) : j_P p l e R s mid args below meth c Q G nL c0 s0 L i ls (As.reverse ++ st) M := by
  obtain ⟨hx, hb', hml, ho, hw, -⟩ := F
  obtain ⟨r1, r2, r3, r4⟩ := hR
  obtain ⟨y1, y2, y3, y4, y5⟩ := Y
  obtain ⟨n1, n2, -⟩ := j_plain _ y3
  obtain ⟨m1, m2⟩ := id hm
  refine i_run (a := (As.map (j_v G)).toArray) hm hn (fun JL H locs cells slots hI hL hz => ?_) kx kk
  have hI0 := hI
  obtain ⟨i1, i2, i3, i4, i5⟩ := hI
  rw [j_st]
  have hws : ∀ w ∈ va_wsS (m_cn own) ix (m_y y) (j_ws y), w ∈ m_ws := by
    intro w hw'
    rcases List.mem_append.mp hw' with h | h
    · rcases List.mem_cons.mp h with rfl | h
      · exact m_ml_ok _ hl
      rcases List.mem_cons.mp h with rfl | h
      · exact m_st_ok _ hst
      rcases List.mem_cons.mp h with rfl | h
      · exact y4
      · cases h
    · rcases List.mem_cons.mp h with rfl | h
      · exact y1
      · exact h
  have hpre : PreS s H (j_Pc G As M) (As.map (j_v G)) := ⟨j_blind G _ M, fun U hU hW => ⟨rfl, j_pre_of K E hB hI0 hz hU hW⟩⟩
  by_cases h0 : m_hh y = []
  · have hcw : j_ws y = Cond.code (m_y y) (m_cd y) (m_mx y) (m_rt y) :: m_ws := by unfold j_ws; rw [j_cw h0]
    exact vx_runS (As := As.map (j_v G)) ⟨hx, hb', hml, ho, hw⟩ Mt (va_cwS As.length hw (j_gi hws) hcw rfl rfl ⟨by rw [y2]; exact n1, by rw [y2]; exact n2, hp⟩ ⟨r1, by show 8 + (m_mx y + 11) + 40 * d ≤ _; omega⟩) hpre rfl (by rw [List.length_map]) hL.1.1 rfl (lv_room (by rw [i_cats]; exact hs)) hd ⟨by omega, by omega⟩
  · have hcw : j_ws y = Cond.codeWith (m_y y) (m_cd y) (m_mx y) (m_rt y) (m_hh y) :: m_ws := by
      unfold j_ws m_cw
      cases hq : m_hh y with
      | nil => exact absurd hq h0
      | cons a b => rfl
    exact vx_runSX (As := As.map (j_v G)) ⟨hx, hb', hml, ho, hw⟩ Mt (vx_cwSW As.length hw (j_gi hws) hcw rfl rfl ⟨by rw [y2]; exact n1, by rw [y2]; exact n2, hp⟩ ⟨r1, by show 8 + (m_mx y + 11) + 40 * d ≤ _; omega⟩) hpre rfl (by rw [List.length_map]) hL.1.1 rfl (lv_room (by rw [i_cats]; exact hs)) hd ⟨by omega, by omega⟩
theorem i_callI (F : j_F p l s mid args meth c own cd nL rt ini hh) (K : j_K G s) (E : j_E G s) (hB : G.1 ≤ s.heap.size ∧ s.heap.size ≤ G.1 + c0) {ix y b d : Nat} {Bs : List Value} {r : m_R} (hd : m_dc cd (m_pc L i) (.invokespecial ix) 3) (hn : m_pc L (i + 1) = m_pc L i + 3) (hl : (own, (ix, y)) ∈ m_ml) (hin : y ∈ m_inl) (hy1 : (m_y y).name = "<init>") (h0 : m_hh y = []) (hrt : m_rt y = none) (Y : j_y y)
    (hp : (parseMethodDescriptor (m_y y).desc).map (fun d => d.parameters.length) = some Bs.length) (hs : m_cats st ≤ 8) (hR : j_RC R d r c0 s0) (hm : m_le M r.2) (Mt : j_Met l G d y (.ref b :: Bs) M r)
    (kx : ∀ x : Nat, x < 2 → r.1 = .inr x → j_X p l e R s mid args below meth c Q G nL c0 s0 L i ls st r.2 x)
    (kk : ∀ v : Option Value, r.1 = .inl v → j_P p l e R s mid args below meth c Q G nL c0 s0 L (i + 1) ls (v.toList ++ st) r.2) : j_P p l e R s mid args below meth c Q G nL c0 s0 L i ls ((.ref b :: Bs).reverse ++ st) M := by
  obtain ⟨hx, hb', hml, ho, hw, -⟩ := F
  obtain ⟨r1, r2, r3, r4⟩ := hR
  obtain ⟨y1, y2, y3, y4, y5⟩ := Y
  obtain ⟨n1, n2, -⟩ := j_plain _ y3
  obtain ⟨m1, m2⟩ := id hm
  refine i_run (a := (Value.ref (j_ad G b) :: Bs.map (j_v G)).toArray) hm hn (fun JL H locs cells slots hI hL hz => ?_) kx kk
  have hI0 := hI
  obtain ⟨i1, i2, i3, i4, i5⟩ := hI
  have hst : (((.ref b :: Bs).reverse ++ st).map (j_v G)) = (Bs.map (j_v G)).reverse ++ .ref (j_ad G b) :: st.map (j_v G) := by
    rw [List.reverse_cons, List.append_assoc, List.map_append, List.map_reverse]
    rfl
  rw [hst]
  have hws : ∀ w ∈ j_ws y, w ∈ m_ws := by
    intro w h
    rcases List.mem_cons.mp h with rfl | h
    · exact y1
    · exact h
  have hcw : j_ws y = Cond.code (m_y y) (m_cd y) (m_mx y) none :: m_ws := by unfold j_ws; rw [j_cw h0, hrt]
  exact vx_runI (As := Bs.map (j_v G)) ⟨hx, hb', hml, ho, hw⟩ Mt (cwI Bs.length hw (j_gi hws) hcw rfl rfl (hw _ y4) (hw _ (m_ml_ok _ hl)) (hw _ (m_in_ok _ hin)) hy1 ⟨by rw [y2]; exact n1, by rw [y2]; exact n2, hp⟩ ⟨r1, by show 8 + (m_mx y + 11) + 40 * d ≤ _; omega⟩) ⟨j_blind G _ M, fun U hU hW => ⟨rfl, j_pre_of K E hB hI0 hz hU hW⟩⟩ rfl (by rw [List.length_map]) hL.1.1 rfl (lv_room (by rw [i_cats]; exact hs)) hd ⟨by omega, by omega⟩
theorem i_callIN (F : j_F p l s mid args meth c own cd nL rt ini hh) (K : j_K G s) (E : j_E G s) (hB : G.1 ≤ s.heap.size ∧ s.heap.size ≤ G.1 + c0) {ix y b d : Nat} {Bs : List Value} {r : m_R} (hd : m_dc cd (m_pc L i) (.invokespecial ix) 3) (hn : m_pc L (i + 1) = m_pc L i + 3) (hl : (own, (ix, y)) ∈ m_nl) (hin : y ∈ m_inl) (hy1 : (m_y y).name = "<init>") (h0 : m_hh y = []) (hrt : m_rt y = none) (Y : j_y y)
    (hp : (parseMethodDescriptor (m_y y).desc).map (fun d => d.parameters.length) = some Bs.length) (hs : m_cats st ≤ 8) (hR : j_RC R d r c0 s0) (hm : m_le M r.2) (Mt : j_Met l G d y (.ref b :: Bs) M r)
    (kx : ∀ x : Nat, x < 2 → r.1 = .inr x → j_X p l e R s mid args below meth c Q G nL c0 s0 L i ls st r.2 x)
    (kk : ∀ v : Option Value, r.1 = .inl v → j_P p l e R s mid args below meth c Q G nL c0 s0 L (i + 1) ls (v.toList ++ st) r.2) : j_P p l e R s mid args below meth c Q G nL c0 s0 L i ls ((.ref b :: Bs).reverse ++ st) M := by
  obtain ⟨hx, hb', hml, ho, hw, -⟩ := F
  obtain ⟨r1, r2, r3, r4⟩ := hR
  obtain ⟨y1, y2, y3, y4, y5⟩ := Y
  obtain ⟨n1, n2, -⟩ := j_plain _ y3
  obtain ⟨m1, m2⟩ := id hm
  refine i_run (a := (Value.ref (j_ad G b) :: Bs.map (j_v G)).toArray) hm hn (fun JL H locs cells slots hI hL hz => ?_) kx kk
  have hI0 := hI
  obtain ⟨i1, i2, i3, i4, i5⟩ := hI
  have hst : (((.ref b :: Bs).reverse ++ st).map (j_v G)) = (Bs.map (j_v G)).reverse ++ .ref (j_ad G b) :: st.map (j_v G) := by
    rw [List.reverse_cons, List.append_assoc, List.map_append, List.map_reverse]
    rfl
  rw [hst]
  have hws : ∀ w ∈ j_ws y, w ∈ m_ws := by
    intro w h
    rcases List.mem_cons.mp h with rfl | h
    · exact y1
    · exact h
  have hcw : j_ws y = Cond.code (m_y y) (m_cd y) (m_mx y) none :: m_ws := by unfold j_ws; rw [j_cw h0, hrt]
  have hne : va_Nw (.methodLinkNest (m_cn own) ix (m_y y) RX7) s := E.2.2.2.1 (own, (ix, y)) hl
  exact vx_runIN (As := Bs.map (j_v G)) ⟨hx, hb', hml, ho, hw⟩ Mt ⟨va_cnB Bs.length hw (j_gi hws) hcw rfl rfl hne (hw _ y4) ⟨by rw [y2]; exact n1, by rw [y2]; exact n2, hp⟩ ⟨r1, by show 8 + (m_mx y + 11) + 40 * d ≤ _; omega⟩, hy1, hw _ (m_in_ok _ hin)⟩ ⟨j_blind G _ M, fun U hU hW => ⟨rfl, j_pre_of K E hB hI0 hz hU hW⟩⟩ rfl (by rw [List.length_map]) hL.1.1 rfl (lv_room (by rw [i_cats]; exact hs)) hd ⟨by omega, by omega⟩
theorem i_callSN (F : j_F p l s mid args meth c own cd nL rt ini hh) (K : j_K G s) (E : j_E G s) (hB : G.1 ≤ s.heap.size ∧ s.heap.size ≤ G.1 + c0) {ix y d : Nat} {As : List Value} {r : m_R} (hd : m_dc cd (m_pc L i) (.invokestatic ix) 3) (hn : m_pc L (i + 1) = m_pc L i + 3) (hl : (own, (ix, y)) ∈ m_nl) (hst : y ∈ m_stl) (h0 : m_hh y = []) (Y : j_y y)
    (hp : (parseMethodDescriptor (m_y y).desc).map (fun d => d.parameters.length) = some As.length) (hs : m_cats st ≤ 8) (hR : j_RC R d r c0 s0) (hm : m_le M r.2) (Mt : j_Met l G d y As M r)
    (kx : ∀ x : Nat, x < 2 → r.1 = .inr x → j_X p l e R s mid args below meth c Q G nL c0 s0 L i ls st r.2 x)
    (kk : ∀ v : Option Value, r.1 = .inl v → j_P p l e R s mid args below meth c Q G nL c0 s0 L (i + 1) ls (v.toList ++ st) r.2) : j_P p l e R s mid args below meth c Q G nL c0 s0 L i ls (As.reverse ++ st) M := by
  obtain ⟨hx, hb', hml, ho, hw, -⟩ := F
  obtain ⟨r1, r2, r3, r4⟩ := hR
  obtain ⟨y1, y2, y3, y4, y5⟩ := Y
  obtain ⟨n1, n2, -⟩ := j_plain _ y3
  obtain ⟨m1, m2⟩ := id hm
  refine i_run (a := (As.map (j_v G)).toArray) hm hn (fun JL H locs cells slots hI hL hz => ?_) kx kk
  have hI0 := hI
  obtain ⟨i1, i2, i3, i4, i5⟩ := hI
  rw [j_st]
  have hws : ∀ w ∈ j_ws y, w ∈ m_ws := by
    intro w h
    rcases List.mem_cons.mp h with rfl | h
    · exact y1
    · exact h
  have hcw : j_ws y = Cond.code (m_y y) (m_cd y) (m_mx y) (m_rt y) :: m_ws := by unfold j_ws; rw [j_cw h0]
  have hne : va_Nw (.methodLinkNest (m_cn own) ix (m_y y) RX7) s := E.2.2.2.1 (own, (ix, y)) hl
  exact vx_runSN (As := As.map (j_v G)) ⟨hx, hb', hml, ho, hw⟩ Mt ⟨va_cnB As.length hw (j_gi hws) hcw rfl rfl hne (hw _ y4) ⟨by rw [y2]; exact n1, by rw [y2]; exact n2, hp⟩ ⟨r1, by show 8 + (m_mx y + 11) + 40 * d ≤ _; omega⟩, hw _ (m_st_ok _ hst), trivial⟩ ⟨j_blind G _ M, fun U hU hW => ⟨rfl, j_pre_of K E hB hI0 hz hU hW⟩⟩ rfl (by rw [List.length_map]) hL.1.1 rfl (lv_room (by rw [i_cats]; exact hs)) hd ⟨by omega, by omega⟩
end J4
