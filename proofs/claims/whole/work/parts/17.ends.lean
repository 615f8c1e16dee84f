/-! ENDS of a method: it returns, it throws, it catches. -/
/-- what the words of a throw are -/
theorem t_at0 : ∀ w ∈ vx_atS RX7 298 "java/lang/IllegalArgumentException" ["java/lang/RuntimeException", "java/lang/Exception"], w ∈ lw_tbl := by decide +kernel
def t_odd (x : Nat) : List Cond := .castable (m_ex x) (m_ex x) :: (["java/lang/RuntimeException", "java/lang/Exception", Bundle.tN].map fun Y => .declares (Bundle.initS Y))
theorem t_od0 : ∀ w ∈ vx_atS RX7 298 "java/lang/IllegalArgumentException" ["java/lang/RuntimeException", "java/lang/Exception"], goodWord w = true ∨ w ∈ t_odd 0 := by decide +kernel
theorem t_ot0 : ∀ w ∈ Cond.classLink RX7 294 "java/lang/IllegalArgumentException" :: Cond.initialized "java/lang/IllegalArgumentException" :: vx_atS RX7 298 "java/lang/IllegalArgumentException" ["java/lang/RuntimeException", "java/lang/Exception"], vx_ot w = true := by decide +kernel
theorem t_k0 : Cond.classLink RX7 294 "java/lang/IllegalArgumentException" ∈ m_ws ∧ Cond.initialized "java/lang/IllegalArgumentException" ∈ m_ws := by
  have h : ∀ w ∈ [Cond.classLink RX7 294 "java/lang/IllegalArgumentException", Cond.initialized "java/lang/IllegalArgumentException"], w ∈ lw_tbl ∧ goodWord w = true := by decide +kernel
  exact ⟨List.mem_filter.mpr (h _ (by simp)), List.mem_filter.mpr (h _ (by simp))⟩
theorem t_k1 : Cond.classLink RX7 234 "java/util/NoSuchElementException" ∈ m_ws ∧ Cond.initialized "java/util/NoSuchElementException" ∈ m_ws := by
  have h : ∀ w ∈ [Cond.classLink RX7 234 "java/util/NoSuchElementException", Cond.initialized "java/util/NoSuchElementException"], w ∈ lw_tbl ∧ goodWord w = true := by decide +kernel
  exact ⟨List.mem_filter.mpr (h _ (by simp)), List.mem_filter.mpr (h _ (by simp))⟩
/-- what a method's body owes at its end, where the run's result is r -/
def j_Q (below : List Frame) (args : Array Value) (s : State) (G : j_G) (r : m_R) : Nat → Nat → State → Prop := fun c0 s0 => vx_MQ below (j_Qc G r) (j_XC G r) args s (r.2.2.2.1 - c0) (r.2.2.2.2 - s0) (j_A G)
section J5
variable {p : Program} {l : Launch} {e : Env} {R : Room} {s : State} {mid : MethodId} {args : Array Value} {below : List Frame} {meth : Method} {c : Code}
variable {G : j_G} {nL c0 s0 i own : Nat} {cd : ByteArray} {rt : Option FieldType} {ini : Bool} {hh : List (Nat × Nat × Nat × Nat)} {L : List (Nat × m_I)} {ls : m_L} {st : List Value} {M : m_M}
theorem t_int {x : Int32} {a pc : Nat} {JL : Array Slot} {H : Heap} {locs : List Loc} {cells slots : Nat} (F : j_F p l s mid args meth c own cd nL rt ini hh) (hd : m_dc cd pc .ireturn 1) (hrt : (a = 0 ∧ rt = some .int) ∨ (a = 1 ∧ rt = some .boolean)) (hv : a = 0 ∨ m_isb x = true) (hI : j_I G s M c0 s0 H locs cells slots) :
    W p l e R s mid args below meth c H locs cells slots (j_Q below args s G (.inl (some (.int x)), M) c0 s0) (F0 mid pc JL [.int x]) := by
  obtain ⟨hx, hb, hml, ho, hw, hr, hlk, -⟩ := F
  obtain ⟨i1, i2, i3, i4, i5⟩ := hI
  have e1 : M.2.2.1 - c0 = cells := by omega
  have e2 : M.2.2.2 - s0 = slots := by omega
  show W p l e R s mid args below meth c H locs cells slots (vx_MQ below _ _ args s (M.2.2.1 - c0) (M.2.2.2 - s0) (j_A G)) (F0 mid pc JL [.int x])
  rw [e1, e2]
  refine vx_ret ?_
  have hq : ∀ t : State, t.heap = H → s.WarmedH t.vm → j_Qc G (.inl (some (.int x)), M) args s (.returned (some (.int x))) t := fun t ht hW => ⟨⟨some (.int x), rfl, rfl⟩, by rw [ht]; exact i1, i3, i2.F ht⟩
  rcases hrt with ⟨h0, rfl⟩ | ⟨h1, rfl⟩
  · exact W.iret hx hb hr hq i2.2.2 hd hlk
  · have hn : narrow .boolean (.int x) = .int x := by
      rcases hv with h | h
      · omega
      · simp only [m_isb, Bool.or_eq_true, beq_iff_eq] at h
        rcases h with rfl | rfl <;> rfl
    exact W.zret hx hb hr hn hq i2.2.2 hd hlk
theorem i_iret (F : j_F p l s mid args meth c own cd nL rt ini hh) {x : Int32} {a : Nat} (hd : m_dc cd (m_pc L i) .ireturn 1) (hrt : (a = 0 ∧ rt = some .int) ∨ (a = 1 ∧ rt = some .boolean)) (hv : a = 0 ∨ m_isb x = true) :
    j_P p l e R s mid args below meth c (j_Q below args s G (.inl (some (.int x)), M)) G nL c0 s0 L i ls [.int x] M := by
  intro JL H locs cells slots hI hL
  exact t_int F hd hrt hv hI
theorem i_aret (F : j_F p l s mid args meth c own cd nL rt ini hh) {k : Nat} (hd : m_dc cd (m_pc L i) .areturn 1) (hrt : rt = some (.object RX4)) :
    j_P p l e R s mid args below meth c (j_Q below args s G (.inl (some (.ref k)), M)) G nL c0 s0 L i ls [.ref k] M := by
  intro JL H locs cells slots hI hL
  obtain ⟨hx, hb, hml, ho, hw, hr, hlk, -⟩ := F
  obtain ⟨i1, i2, i3, i4, i5⟩ := hI
  have e1 : M.2.2.1 - c0 = cells := by omega
  have e2 : M.2.2.2 - s0 = slots := by omega
  show W p l e R s mid args below meth c H locs cells slots (vx_MQ below _ _ args s (M.2.2.1 - c0) (M.2.2.2 - s0) (j_A G)) (F0 mid (m_pc L i) JL [.ref (j_ad G k)])
  rw [e1, e2]
  refine vx_ret ?_
  rw [hrt] at hr
  exact W.aret hx hb hr (Or.inl ⟨_, rfl⟩) (Or.inr ⟨_, rfl⟩) (fun t ht hW => ⟨⟨some (.ref k), rfl, rfl⟩, by rw [ht]; exact i1, i3, i2.F ht⟩) i2.2.2 hd hlk
theorem i_ret (F : j_F p l s mid args meth c own cd nL rt ini hh) (hd : m_dc cd (m_pc L i) .return_ 1) (hrt : rt = none) :
    j_P p l e R s mid args below meth c (j_Q below args s G (.inl none, M)) G nL c0 s0 L i ls [] M := by
  intro JL H locs cells slots hI hL
  obtain ⟨hx, hb, hml, ho, hw, hr, hlk, -⟩ := F
  obtain ⟨i1, i2, i3, i4, i5⟩ := hI
  have e1 : M.2.2.1 - c0 = cells := by omega
  have e2 : M.2.2.2 - s0 = slots := by omega
  show W p l e R s mid args below meth c H locs cells slots (vx_MQ below _ _ args s (M.2.2.1 - c0) (M.2.2.2 - s0) (j_A G)) (F0 mid (m_pc L i) JL [])
  rw [e1, e2]
  refine vx_ret ?_
  exact W.vret hx hb (by rw [hr, hrt]) (fun t ht hW => ⟨⟨none, rfl, rfl⟩, by rw [ht]; exact i1, i3, i2.F ht⟩) i2.2.2 hd hlk
/-- nothing was thrown in vain: x leaves this method -/
theorem t_out (F : j_F p l s mid args meth c own cd nL rt ini hh) (hnl : ¬ (own = 9 ∧ rt = some .boolean)) {pc x : Nat} {JL : Array Slot} {H : Heap} {locs : List Loc} {cells slots : Nat} {ce : Cell} {q9 : Addr} {rest : List Value} (hI : j_I G s M c0 s0 H locs cells slots) (hx2 : x < 2) (hce : H[q9]? = some ce) (hcv : ce.vm = .none) (hcl : s.vm.findClass (m_ex x) = some ce.cls)
    (hp : ∀ z ∈ hh, covers ⟨z.1, z.2.1, z.2.2.1, z.2.2.2⟩ pc = false ∨ (z.2.2.2 ≠ 0 ∧ ∃ nm : String, (Cond.classLink (m_cn own) z.2.2.2 nm).before args s = true ∧ va_Nc (m_ex x) nm s)) :
    vx_W p l e R s mid args below meth c H locs cells slots (j_Q below args s G (.inr x, M) c0 s0) (F0 mid pc JL rest) q9 := by
  obtain ⟨hx, hb, hml, ho, hw, hr, hlk, htb, -⟩ := F
  obtain ⟨i1, i2, i3, i4, i5⟩ := hI
  refine vx_outP ho hlk (fun z hz => ?_) hce hcv hcl (fun t ht hW => ⟨⟨x, hx2, rfl, rfl⟩, by rw [ht]; exact i1, i3, i2.F ht⟩) i2.2.2 (by show cells ≤ M.2.2.1 - c0; omega) (by show slots ≤ M.2.2.2 - s0; omega)
  rw [htb.resolve_right hnl] at hz
  obtain ⟨y, hy, rfl⟩ := List.mem_map.mp hz
  exact hp y hy
theorem t_cov {a b c d pc : Nat} : covers ⟨a, b, c, d⟩ pc = true ↔ a ≤ pc ∧ pc < b := by
  simp [covers]
theorem t_links : Cond.classLink RL 13 (m_ex 0) ∈ m_ws ∧ Cond.classLink RL 34 (m_ex 1) ∈ m_ws := by
  have h : ∀ w ∈ [Cond.classLink RL 13 (m_ex 0), Cond.classLink RL 34 (m_ex 1)], w ∈ lw_tbl ∧ goodWord w = true := by decide +kernel
  exact ⟨List.mem_filter.mpr (h _ (by simp)), List.mem_filter.mpr (h _ (by simp))⟩
/-- x, thrown at pc by a callee: by the handlers hs, or to the caller -/
theorem t_hand (F : j_F p l s mid args meth c own cd nL rt ini hh) (hnl : ¬ (own = 9 ∧ rt = some .boolean)) (E : j_E G s) (hrt : hh = [] ∨ rt = some .int) {pc x : Nat} {JL : Array Slot} {H : Heap} {locs : List Loc} {cells slots : Nat} {ce : Cell} {q9 : Addr} {rest : List Value} (hI : j_I G s M c0 s0 H locs cells slots) (hL : j_LS G ls nL JL) (hx2 : x < 2) (hce : H[q9]? = some ce) (hcv : ce.vm = .none) (hcl : s.vm.findClass (m_ex x) = some ce.cls) :
    ∀ (hs : List (Nat × (Nat × (Nat × Int32)))) (h2 h1 : List (Nat × Nat × Nat × Nat)) (r : m_R), hh = h1 ++ h2 → h2.length = hs.length → (h2.zip hs).all (fun q => decide (m_hd cd own q.1 q.2)) = true → (∀ q ∈ h2, ∀ k : Nat, m_dc cd q.2.2.1 (.astore k) 2 → k < nL) → (∀ q ∈ h2, ∀ k : Fin 4, m_dc cd q.2.2.1 (.astore_n k) 1 → k.val < nL) → (∀ z ∈ h1, covers ⟨z.1, z.2.1, z.2.2.1, z.2.2.2⟩ pc = false ∨ (z.2.2.2 ≠ 0 ∧ ∃ nm : String, (Cond.classLink (m_cn own) z.2.2.2 nm).before args s = true ∧ va_Nc (m_ex x) nm s)) → m_thr pc x M hs = some (.inr r) →
      vx_W p l e R s mid args below meth c H locs cells slots (j_Q below args s G r c0 s0) (F0 mid pc JL rest) q9
  | [], h2, h1, r, he, hlen, hz, hk, hk2, hp, hr => by
    have h0 : h2 = [] := List.length_eq_zero_iff.mp hlen
    subst h0
    rw [List.append_nil] at he
    subst he
    simp only [m_thr, m_end, Option.some.injEq, Sum.inr.injEq] at hr
    subst hr
    exact t_out F hnl hI hx2 hce hcv hcl hp
  | h :: hs, [], h1, r, he, hlen, hz, hk, hk2, hp, hr => by simp at hlen
  | h :: hs, q :: h2, h1, r, he, hlen, hz, hk, hk2, hp, hr => by
    simp only [List.zip_cons_cons, List.all_cons, Bool.and_eq_true, decide_eq_true_eq] at hz
    obtain ⟨⟨d1, d2, d3, d4, d5⟩, hz2⟩ := hz
    have F0' := F
    obtain ⟨hx, hb, hml, ho, hw, hrr, hlk, htb, -⟩ := F
    -- the type of the row: its link, and that x is of it or not
    have hlink : ∃ tx : Nat, tx < 2 ∧ h.2.2.1 = tx ∧ q.2.2.2 ≠ 0 ∧ (Cond.classLink (m_cn own) q.2.2.2 (m_ex tx)).before args s = true := by
      rw [d3]
      rcases d4 with ⟨g1, g2⟩ | ⟨g1, g2⟩
      · exact ⟨0, by decide, g1, by rw [g2]; decide, by rw [g2]; exact hw _ t_links.1⟩
      · exact ⟨1, by decide, g1, by rw [g2]; decide, by rw [g2]; exact hw _ t_links.2⟩
    obtain ⟨tx, htx, e1, e2, e3⟩ := hlink
    have hor : tx = x ∨ va_Nc (m_ex x) (m_ex tx) s := by
      obtain ⟨-, -, -, -, ⟨-, -, n1, n0, -⟩, -⟩ := E
      match x, tx, hx2, htx with
      | 0, 0, _, _ => exact Or.inl rfl
      | 1, 1, _, _ => exact Or.inl rfl
      | 0, 1, _, _ => exact Or.inr n0
      | 1, 0, _, _ => exact Or.inr n1
    have hrt2 : rt = some .int := by
      rcases hrt with h | h
      · rw [he] at h
        simp at h
      · exact h
    by_cases hc : h.1 ≤ pc ∧ pc < h.2.1 ∧ h.2.2.1 = x
    · -- this row takes it
      rw [m_thr, if_pos hc] at hr
      simp only [m_end, Option.some.injEq, Sum.inr.injEq] at hr
      subst hr
      obtain ⟨c1, c2, c3⟩ := hc
      have etx : tx = x := by omega
      subst etx
      have hcast : (Cond.castable (m_ex tx) (m_ex tx)).before args s = true := by
        obtain ⟨-, -, -, -, ⟨k0, k1, -⟩, -⟩ := E
        match tx, hx2 with
        | 0, _ => exact va_Nw.use rfl k0
        | 1, _ => exact va_Nw.use rfl k1
      have hsp : c.exceptionTable.toList = (tableOf h1) ++ ⟨q.1, q.2.1, q.2.2.1, q.2.2.2⟩ :: (tableOf h2) := by
        rw [htb.resolve_right hnl, he]
        simp [tableOf]
      refine vx_catch ho (tableOf h1) ⟨q.1, q.2.1, q.2.2.1, q.2.2.2⟩ (tableOf h2) hsp (fun z hz => ?_) (t_cov.mpr ⟨by omega, by omega⟩) e2 e3 hcast hce hcv hcl ?_
      · obtain ⟨y, hy, rfl⟩ := List.mem_map.mp hz
        exact hp y hy
      · show W p l e R s mid args below meth c H locs cells slots _ (F0 mid q.2.2.1 JL [.ref q9])
        rcases d5 with ⟨k, g1, -, g2, g3⟩ | ⟨k, g1, g2, g3⟩
        · refine lv_astore_n hx hb g1 rfl hL.1 (hk2 q List.mem_cons_self k g1) rfl fun JL' hs' => ?_
          refine lv_iconst hx hb g2 (Int32.ofInt_toInt _) ?_
          exact t_int (a := 0) F0' g3 (Or.inl ⟨rfl, hrt2⟩) (Or.inl rfl) hI
        · refine lv_astore hx hb g1 hL.1 (hk q List.mem_cons_self k.val g1) rfl fun JL' hs' => ?_
          refine lv_iconst hx hb g2 (Int32.ofInt_toInt _) ?_
          exact t_int (a := 0) F0' g3 (Or.inl ⟨rfl, hrt2⟩) (Or.inl rfl) hI
    · -- it passes this row
      rw [m_thr, if_neg hc] at hr
      refine t_hand F0' hnl E hrt hI hL hx2 hce hcv hcl hs h2 (h1 ++ [q]) r (by rw [he]; simp) (by simpa using hlen) hz2 (fun q' hq' => hk q' (List.mem_cons_of_mem _ hq')) (fun q' hq' => hk2 q' (List.mem_cons_of_mem _ hq')) (fun z hz => ?_) hr
      rcases List.mem_append.mp hz with hz | hz
      · exact hp z hz
      · simp only [List.mem_singleton] at hz
        subst hz
        rcases hor with h | h
        · left
          cases hcv2 : covers ⟨z.1, z.2.1, z.2.2.1, z.2.2.2⟩ pc with
          | false => rfl
          | true =>
            obtain ⟨a1, a2⟩ := t_cov.mp hcv2
            exact absurd ⟨by omega, by omega, by omega⟩ hc
        · exact Or.inr ⟨e2, _, e3, h⟩
end J5
