/-! The machine's two instructions on texts. -/
def k_tf (a : Nat) (j : Nat) : Int32 := (m_tbyt.getD a []).getD j 0
theorem k_txt0 : ((List.range 11).all fun a => decide (m_tlen.getD a 0 = (m_text.getD a []).length ∧ m_tlen.getD a 0 < 2 ^ 31) && (List.range (m_tlen.getD a 0)).all fun j => decide (((k_tf a j &&& 255).toUInt32 % 65536).toInt32 = k_tf a j ∧ narrow .char (.int (k_tf a j)) = .int (k_tf a j) ∧ k_tf a j = nI ((m_text.getD a []).getD j 0))) = true := by decide +kernel
theorem k_txt {a : Nat} (h : a < 11) : m_tlen.getD a 0 = (m_text.getD a []).length ∧ m_tlen.getD a 0 < 2 ^ 31 ∧ k_asc (m_tlen.getD a 0) (k_tf a) ∧ ∀ j, j < m_tlen.getD a 0 → k_tf a j = nI ((m_text.getD a []).getD j 0) := by
  have h1 := List.all_eq_true.mp k_txt0 a (List.mem_range.mpr h)
  simp only [Bool.and_eq_true, decide_eq_true_eq] at h1
  obtain ⟨⟨h2, h3⟩, h4⟩ := h1
  have h5 : ∀ j, j < m_tlen.getD a 0 → ((k_tf a j &&& 255).toUInt32 % 65536).toInt32 = k_tf a j ∧ narrow .char (.int (k_tf a j)) = .int (k_tf a j) ∧ k_tf a j = nI ((m_text.getD a []).getD j 0) := fun j hj => of_decide_eq_true (List.all_eq_true.mp h4 j (List.mem_range.mpr hj))
  exact ⟨h2, h3, fun j hj => ⟨(h5 j hj).1, (h5 j hj).2.1⟩, fun j hj => (h5 j hj).2.2⟩
theorem k_tn : m_text.length = 11 := by decide +kernel
section JD
variable {p : Program} {l : Launch} {e : Env} {R : Room} {s : State} {mid : MethodId} {args : Array Value} {below : List Frame} {meth : Method} {c : Code} {Q : Nat → Nat → State → Prop}
variable {G : j_G} {nL c0 s0 i own : Nat} {cd : ByteArray} {rt : Option FieldType} {ini : Bool} {hh : List (Nat × Nat × Nat × Nat)} {L : List (Nat × m_I)} {ls : m_L} {st : List Value} {M : m_M}
theorem k_Bof (E : j_E G s) {a : Nat} (ha : a < 11) : ∃ v : Nat, k_B G (G.2.1 (1 + a)) v (m_tlen.getD a 0) (k_tf a) s := by
  obtain ⟨-, ⟨adV, h1, -⟩, -, -, -, -, -, -, -, h2, h3⟩ := E
  obtain ⟨g1, g2, g3, g4⟩ := h1 a ha
  exact ⟨adV a, g1, g2, g3, g4, h2, h3⟩
theorem i_slen (F : j_F p l s mid args meth c own cd nL rt ini hh) (E : j_E G s) (hR : j_R R M c0 s0) {ix r : Nat} (hd : m_d1 cd L (m_pc L i) i (.invokevirtual ix) 3) (hj : (own, (ix, 4)) ∈ m_jl) (h1 : m_T0 ≤ r) (h2 : r < m_T0 + m_text.length) (hs : m_cats st ≤ 8)
    (k : j_P p l e R s mid args below meth c Q G nL c0 s0 L (i + 1) ls (.int (nI (m_text.getD (r - m_T0) []).length) :: st) M) : j_P p l e R s mid args below meth c Q G nL c0 s0 L i ls (.ref r :: st) M := by
  intro JL H locs cells slots hI hL
  have kk := k JL H
  rw [k_tn] at h2
  obtain ⟨a, rfl⟩ : ∃ a, r = m_T0 + a := ⟨r - m_T0, by omega⟩
  have ha : a < 11 := by omega
  rw [show m_T0 + a - m_T0 = a by omega] at kk
  obtain ⟨v, hB⟩ := k_Bof E ha
  obtain ⟨t1, t2, t3, t4⟩ := k_txt ha
  obtain ⟨hx, hb, hml, ho, hw, -⟩ := F
  obtain ⟨d1, d2⟩ := hd
  rw [d2] at kk
  obtain ⟨r1, r2, r3, r4⟩ := hR
  obtain ⟨i1, i2, i3, i4, i5⟩ := hI
  show W p l e R s mid args below meth c H locs cells slots (Q c0 s0) (F0 mid (m_pc L i) JL ([].reverse ++ .ref (j_ad G (m_T0 + a)) :: st.map (j_v G)))
  rw [j_ad_text]
  refine k_V (Bs := []) ⟨hx, hb, hml, ho, hw⟩ (k_len (l := l) (G := G) (a := G.2.1 (1 + a)) (v := v) (n := m_tlen.getD a 0) (f := k_tf a) 0) (fun w h => ?_) (by decide +kernel) ⟨by omega, by show 8 + (1 + 11) + 40 * 1 ≤ _; omega⟩ hB i2 (k_recv hB i2) hL.1.1 (by rw [i_cats]; exact hs) d1 ⟨by omega, by omega⟩ fun locs1 hS1 => ?_
  · rcases List.mem_cons.mp h with rfl | h
    · exact m_jl_ok _ hj
    rcases List.mem_cons.mp h with rfl | h
    · exact k_in 10 rfl
    rcases List.mem_cons.mp h with rfl | h
    · exact k_in 11 rfl
    rcases List.mem_cons.mp h with rfl | h
    · exact k_in 3 rfl
    rcases List.mem_cons.mp h with rfl | h
    · exact k_in 9 rfl
    · cases h
  · have k9 := kk locs1 cells slots ⟨i1, hS1, i3, i4, i5⟩ hL
    rw [← t1] at k9
    exact k9
theorem i_char (F : j_F p l s mid args meth c own cd nL rt ini hh) (E : j_E G s) (hR : j_R R M c0 s0) {ix r : Nat} {j : Int32} (hd : m_d1 cd L (m_pc L i) i (.invokevirtual ix) 3) (hj : (own, (ix, 5)) ∈ m_jl) (h1 : m_T0 ≤ r) (h2 : r < m_T0 + m_text.length) (hs : m_cats st ≤ 8) (hin : m_in j (m_text.getD (r - m_T0) []).length = true)
    (k : j_P p l e R s mid args below meth c Q G nL c0 s0 L (i + 1) ls (.int (nI ((m_text.getD (r - m_T0) []).getD j.toNatClampNeg 0)) :: st) M) : j_P p l e R s mid args below meth c Q G nL c0 s0 L i ls (.int j :: .ref r :: st) M := by
  intro JL H locs cells slots hI hL
  have kk := k JL H
  rw [k_tn] at h2
  obtain ⟨a, rfl⟩ : ∃ a, r = m_T0 + a := ⟨r - m_T0, by omega⟩
  have ha : a < 11 := by omega
  rw [show m_T0 + a - m_T0 = a by omega] at kk hin
  obtain ⟨v, hB⟩ := k_Bof E ha
  obtain ⟨t1, t2, t3, t4⟩ := k_txt ha
  obtain ⟨hx, hb, hml, ho, hw, -⟩ := F
  obtain ⟨d1, d2⟩ := hd
  rw [d2] at kk
  rw [← t1] at hin
  have hlt : j.toNatClampNeg < m_tlen.getD a 0 := Nat.not_le.mp fun h => (of_decide_eq_true hin : ¬ (j < 0 ∨ m_tlen.getD a 0 ≤ j.toNatClampNeg)) (Or.inr h)
  rw [← t4 _ hlt] at kk
  obtain ⟨r1, r2, r3, r4⟩ := hR
  obtain ⟨i1, i2, i3, i4, i5⟩ := hI
  show W p l e R s mid args below meth c H locs cells slots (Q c0 s0) (F0 mid (m_pc L i) JL ([.int j].reverse ++ .ref (j_ad G (m_T0 + a)) :: st.map (j_v G)))
  rw [j_ad_text]
  refine k_V (Bs := [.int j]) ⟨hx, hb, hml, ho, hw⟩ (k_ch (l := l) (G := G) (a := G.2.1 (1 + a)) (v := v) (n := m_tlen.getD a 0) (f := k_tf a) t3 t2 hin 0) (fun w h => ?_) (show yJ0_charAt_5068e.cls ≠ "java/lang/invoke/MethodHandle" ∧ yJ0_charAt_5068e.cls ≠ "java/lang/invoke/VarHandle" ∧ (parseMethodDescriptor yJ0_charAt_5068e.desc).map (fun d => d.parameters.length) = some 1 by decide +kernel) ⟨by omega, by show 8 + (2 + 11) + 40 * 3 ≤ _; omega⟩ hB i2 (k_recv hB i2) hL.1.1 (by rw [i_cats]; exact hs) d1 ⟨by omega, by omega⟩ fun locs1 hS1 => ?_
  · rcases List.mem_cons.mp h with rfl | h
    · exact m_jl_ok _ hj
    rcases List.mem_cons.mp h with rfl | h
    · exact k_in 13 rfl
    rcases List.mem_cons.mp h with rfl | h
    · exact k_in 14 rfl
    rcases List.mem_cons.mp h with rfl | h
    · exact k_in 3 rfl
    rcases List.mem_cons.mp h with rfl | h
    · exact k_in 12 rfl
    · cases h
  · exact kk locs1 cells slots ⟨i1, hS1, i3, i4, i5⟩ hL
end JD
