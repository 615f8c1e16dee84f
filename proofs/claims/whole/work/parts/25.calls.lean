/-! A CALL's step, and a whole run: by the fuel. -/
def j_HH (own : Nat) (cd : ByteArray) (nL : Nat) (rt : Option FieldType) (hh : List (Nat × Nat × Nat × Nat)) (hs : List (Nat × (Nat × (Nat × Int32)))) : Prop :=
  (hh = [] ∨ rt = some .int) ∧ hh.length = hs.length ∧ (hh.zip hs).all (fun q => decide (m_hd cd own q.1 q.2)) = true ∧ (∀ q ∈ hh, ∀ k : Nat, m_dc cd q.2.2.1 (.astore k) 2 → k < nL) ∧ (∀ q ∈ hh, ∀ k : Fin 4, m_dc cd q.2.2.1 (.astore_n k) 1 → k.val < nL)
set_option maxRecDepth 100000 in
theorem h_lt0 : (m_ml.all fun q => decide (q.2.2 < 251)) = true ∧ (m_nl.all fun q => decide (q.2.2 < 251)) = true ∧ (m_inl.all fun q => decide (q ∉ m_stl) && decide (m_ows.getD q 0 < 9)) = true := by decide +kernel
theorem h_np {a b : Nat} (h : a < 251) (hb : m_nps.getD a 0 = b) : m_np a = some b ∧ m_ow a = m_ows.getD a 0 := by
  have h1 := List.all_eq_true.mp m_nps_ok a (List.mem_range.mpr h)
  simp only [Bool.and_eq_true, decide_eq_true_eq] at h1
  rw [← hb]
  exact h1
theorem h_nps {a b : Nat} (h : a < 251) (hs : a ∈ m_stl) (hb : m_nps.getD a 0 = b) : (parseMethodDescriptor (m_y a).desc).map (fun d => d.parameters.length) = some b := by
  have h1 := (h_np h hb).1
  unfold m_np at h1
  rw [if_pos hs] at h1
  exact h1
theorem h_npi {a b : Nat} (h : a < 251) (hs : a ∈ m_inl) (hb : m_nps.getD a 0 = b + 1) : (parseMethodDescriptor (m_y a).desc).map (fun d => d.parameters.length) = some b ∧ m_ow a = m_ows.getD a 0 ∧ m_ow a < 9 := by
  have h0 := List.all_eq_true.mp h_lt0.2.2 a hs
  simp only [Bool.and_eq_true, decide_eq_true_eq] at h0
  obtain ⟨h1, h2⟩ := h_np h hb
  unfold m_np at h1
  rw [if_neg h0.1] at h1
  refine ⟨?_, h2, by rw [h2]; exact h0.2⟩
  cases hd : parseMethodDescriptor (m_y a).desc with
  | none => rw [hd] at h1; cases h1
  | some d =>
    rw [hd] at h1
    simp only [Option.map_some, Option.some.injEq] at h1 ⊢
    omega
theorem h_nh {a : Nat} (h : m_nh a = true) : m_hh a = [] := of_decide_eq_true (List.all_eq_true.mp m_ins_ok.2 a (List.mem_range.mpr (by have := Nat.le_of_ble_eq_true h; omega)))
theorem h_ins {a : Nat} (h : a ∈ m_ins) : (m_y a).name = "<init>" ∧ m_rt a = none := by
  have := List.all_eq_true.mp m_ins_ok.1 a h
  simp only [Bool.and_eq_true, decide_eq_true_eq] at this
  exact this
theorem h_recv {k : Nat} {As : List Value} {M : m_M} (h : m_recv (k + 1) As M = true) : ∃ (b : Nat) (Bs fs : List Value), As = .ref b :: Bs ∧ M.1 b = .inr (k, fs) ∧ b < M.2.1 := by
  unfold m_recv at h
  match As, h with
  | .ref b :: Bs, h =>
    simp only at h
    cases hM : M.1 b with
    | inl x => rw [hM] at h; cases h
    | inr x =>
      obtain ⟨k', fs⟩ := x
      rw [hM] at h
      simp only [decide_eq_true_eq] at h
      obtain ⟨h1, h2⟩ := h
      subst h2
      exact ⟨b, Bs, fs, rfl, hM, h1⟩
theorem h_thr {pc e : Nat} {M : m_M} {z : m_N} : ∀ hs : List (Nat × (Nat × (Nat × Int32))), m_thr pc e M hs = some z → ∃ v : Option Value ⊕ Nat, z = .inr (v, M)
  | [], h => by
    unfold m_thr m_end at h
    cases h
    exact ⟨_, rfl⟩
  | q :: hs, h => by
    unfold m_thr m_end at h
    split at h
    · cases h
      exact ⟨_, rfl⟩
    · exact h_thr hs h
section JT
variable {p : Program} {l : Launch} {e : Env} {R : Room} {s : State} {mid : MethodId} {args : Array Value} {below : List Frame} {meth : Method} {c : Code}
variable {G : j_G} {nL c0 s0 i own d a b : Nat} {n : Int32} {t : List (Int32 × Nat)} {cd : ByteArray} {rt : Option FieldType} {ini : Bool} {hh : List (Nat × Nat × Nat × Nat)} {hs : List (Nat × (Nat × (Nat × Int32)))} {L : List (Nat × m_I)} {ls : m_L} {st : List Value} {M : m_M} {r : m_R} {z : m_N} {cb : m_B}
theorem p_call (T : j_T p l R s mid args meth c G own cd nL rt ini hh c0 s0 d r) (HH : j_HH own cd nL rt hh hs) (hk : m_lk own cd nL rt ini L (m_pc L i) i (30, (a, (b, (n, t)))) = true)
    (hcb : a < 251 → ∀ (As : List Value) (M : m_M) (r1 : m_R), (∀ v ∈ As, m_cat1 v = true) → cb a As M = some r1 → m_le M r1.2 ∧ ∃ d' : Nat, d = d' + 1 ∧ j_y a ∧ j_Met l G d' a As M r1)
    (h : s_call hs cb (m_pc L i) a b n.toNatClampNeg i ls st M = some z) (Z : j_Z p l e R s mid args below meth c G nL c0 s0 L r z) : j_P p l e R s mid args below meth c (j_Q below args s G r) G nL c0 s0 L i ls st M := by
  simp only [m_lk, Bool.and_eq_true, Bool.or_eq_true, decide_eq_true_eq] at hk
  obtain ⟨⟨k1, k2⟩, k3⟩ := hk
  unfold s_call m_go at h
  split at h
  case isFalse => cases h
  rename_i hc
  obtain ⟨c1, c2, c3, c4⟩ := hc
  have hst : st = ((st.take b).reverse).reverse ++ st.drop b := by rw [List.reverse_reverse, List.take_append_drop]
  have hlen : ((st.take b).reverse).length = b := by rw [List.length_reverse, List.length_take]; omega
  have hcat : ∀ v ∈ (st.take b).reverse, m_cat1 v = true := fun v hv => List.all_eq_true.mp c3 v (List.mem_reverse.mp hv)
  clear c1 c3
  generalize (st.take b).reverse = As at *
  generalize st.drop b = rest at *
  subst hst
  -- what the callee gives, and how it goes on
  have key : a < 251 → ∃ (r1 : m_R) (d' : Nat), d = d' + 1 ∧ j_y a ∧ j_Met l G d' a As M r1 ∧ m_le M r1.2 ∧ j_RC R d' r1 c0 s0 ∧ (∀ x : Nat, x < 2 → r1.1 = .inr x → j_X p l e R s mid args below meth c (j_Q below args s G r) G nL c0 s0 L i ls rest r1.2 x) ∧ (∀ v : Option Value, r1.1 = .inl v → j_P p l e R s mid args below meth c (j_Q below args s G r) G nL c0 s0 L (i + 1) ls (v.toList ++ rest) r1.2) := by
    intro ha
    obtain ⟨T1, T2, T3, T4, ⟨t1, t2⟩, ⟨t3, t4⟩, T7⟩ := T
    split at h
    · cases h
    · rename_i M1 he
      cases h
      obtain ⟨q1, d', rfl, q2, q3⟩ := hcb ha As M _ hcat he
      obtain ⟨⟨z1, z2⟩, Z2⟩ := Z
      refine ⟨_, d', rfl, q2, q3, q1, ⟨t1, t2, Nat.le_trans z1 t3, Nat.le_trans z2 t4⟩, fun x _ hx => (by cases hx), fun v hv => ?_⟩
      cases hv
      exact Z2
    · rename_i v1 M1 he
      cases h
      obtain ⟨q1, d', rfl, q2, q3⟩ := hcb ha As M _ hcat he
      obtain ⟨⟨z1, z2⟩, Z2⟩ := Z
      refine ⟨_, d', rfl, q2, q3, q1, ⟨t1, t2, Nat.le_trans z1 t3, Nat.le_trans z2 t4⟩, fun x _ hx => (by cases hx), fun v hv => ?_⟩
      cases hv
      exact Z2
    · rename_i x1 M1 he
      obtain ⟨q1, d', rfl, q2, q3⟩ := hcb ha As M _ hcat he
      obtain ⟨vz, rfl⟩ := h_thr hs h
      obtain rfl := Z
      refine ⟨_, d', rfl, q2, q3, q1, ⟨t1, t2, t3, t4⟩, fun x hx2 hx => ?_, fun v hv => by cases hv⟩
      cases hx
      intro JL H locs cells slots ce q9 hI hL hce hcv hcl
      have hnl : ¬ (own = 9 ∧ rt = some .boolean) := by
        rcases T7.2 with h9 | ⟨v9, h9⟩
        · exact h9
        · intro hb
          have h10 : hh = [] := by
            rcases HH.1 with h | h
            · exact h
            · rw [hb.2] at h
              cases h
          have h11 : hs = [] := List.length_eq_zero_iff.mp (by rw [← HH.2.1, h10]; rfl)
          rw [h11] at h
          unfold m_thr m_end at h
          cases h
          cases h9
      exact t_hand T1 hnl T3 HH.1 hI hL hx2 hce hcv hcl hs hh [] _ rfl HH.2.1 HH.2.2.1 HH.2.2.2.1 HH.2.2.2.2 (fun z hz => nomatch hz) h
  rcases k3 with (((g | g) | g) | g) | g
  · obtain ⟨⟨⟨⟨⟨⟨⟨g1, g2⟩, g3⟩, g4⟩, g5⟩, g6⟩, g7⟩, g8⟩ := g
    have hm := m_iml_in g3
    have ha : a < 251 := of_decide_eq_true (List.all_eq_true.mp h_lt0.1 _ hm)
    obtain ⟨r1, d', rfl, q2, q3, q4, q5, q6, q7⟩ := key ha
    rw [g6] at c4
    obtain ⟨b0, Bs, fs, rfl, e1, e2⟩ := h_recv c4
    obtain ⟨n1, n2, n3⟩ := h_npi (b := Bs.length) ha (m_mem_in g4) (by rw [k2, ← hlen]; rfl)
    rw [← n2] at e1
    exact i_callV T.1 T.2.1 T.2.2.1 T.2.2.2.1 g2 k1 hm (m_mem_in g4) (m_mem_in g5) (h_nh g7) q2 e2 e1 n3 n1 c2 q5 q4 q3 q6 q7
  · obtain ⟨⟨⟨⟨g1, g2⟩, g3⟩, g4⟩, g5⟩ := g
    have hm := m_iml_in g3
    have ha : a < 251 := of_decide_eq_true (List.all_eq_true.mp h_lt0.1 _ hm)
    obtain ⟨r1, d', rfl, q2, q3, q4, q5, q6, q7⟩ := key ha
    exact i_callS T.1 T.2.1 T.2.2.1 T.2.2.2.1 g2 k1 hm (m_mem_in g4) q2 (by rw [hlen]; exact h_nps ha (m_mem_in g4) k2) c2 q5 q4 q3 q6 q7
  · obtain ⟨⟨⟨⟨⟨⟨⟨⟨g1, g2⟩, g3⟩, g4⟩, g5⟩, g6⟩, g7⟩, -⟩, g8⟩ := g
    have hm := m_iml_in g3
    have ha : a < 251 := of_decide_eq_true (List.all_eq_true.mp h_lt0.1 _ hm)
    obtain ⟨r1, d', rfl, q2, q3, q4, q5, q6, q7⟩ := key ha
    rw [g6] at c4
    obtain ⟨b0, Bs, fs, rfl, e1, e2⟩ := h_recv c4
    obtain ⟨n1, n2, n3⟩ := h_npi (b := Bs.length) ha (m_mem_in g4) (by rw [k2, ← hlen]; rfl)
    exact i_callI T.1 T.2.1 T.2.2.1 T.2.2.2.1 g2 k1 hm (m_mem_in g4) (h_ins (m_mem_in g5)).1 (h_nh g7) (h_ins (m_mem_in g5)).2 q2 n1 c2 q5 q4 q3 q6 q7
  · obtain ⟨⟨⟨⟨⟨g1, g2⟩, g3⟩, g4⟩, g5⟩, g6⟩ := g
    have ha : a < 251 := of_decide_eq_true (List.all_eq_true.mp h_lt0.2.1 _ g3)
    obtain ⟨r1, d', rfl, q2, q3, q4, q5, q6, q7⟩ := key ha
    exact i_callSN T.1 T.2.1 T.2.2.1 T.2.2.2.1 g2 k1 g3 (m_mem_in g4) (h_nh g6) q2 (by rw [hlen]; exact h_nps ha (m_mem_in g4) k2) c2 q5 q4 q3 q6 q7
  · obtain ⟨⟨⟨⟨⟨⟨⟨⟨g1, g2⟩, g3⟩, g4⟩, g5⟩, g6⟩, g7⟩, -⟩, g8⟩ := g
    have ha : a < 251 := of_decide_eq_true (List.all_eq_true.mp h_lt0.2.1 _ g3)
    obtain ⟨r1, d', rfl, q2, q3, q4, q5, q6, q7⟩ := key ha
    rw [g6] at c4
    obtain ⟨b0, Bs, fs, rfl, e1, e2⟩ := h_recv c4
    obtain ⟨n1, n2, n3⟩ := h_npi (b := Bs.length) ha (m_mem_in g4) (by rw [k2, ← hlen]; rfl)
    exact i_callIN T.1 T.2.1 T.2.2.1 T.2.2.2.1 g2 k1 g3 (m_mem_in g4) (h_ins (m_mem_in g5)).1 (h_nh g7) (h_ins (m_mem_in g5)).2 q2 n1 c2 q5 q4 q3 q6 q7
end JT
