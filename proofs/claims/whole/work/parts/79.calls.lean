/-! the calls of the script, one by one -/
section OPS
variable {TR : w_k_TR} {X : m_X} {s : g_S} {A : w_k_A} {ex : Nat} {x4 : Int32}
theorem w_k_bv {v : Int32} {b : Bool} (h : v = w_q_b b) : (v = 0 ∧ b = false) ∨ (v = 1 ∧ b = true) := by
  cases b
  · exact Or.inl ⟨h, rfl⟩
  · exact Or.inr ⟨h, rfl⟩
theorem w_k_cm0 (w : Int32) (h : w = 0) : lg_cmp w.toInt64 (Int64.ofNat 0) = 0 := by subst h; rfl
theorem w_k_cm1 (w : Int32) (h : w = 1) : lg_cmp w.toInt64 (Int64.ofNat 1) = 0 := by subst h; rfl
theorem w_bl_lets {l k t v : Int32} (hA : w_k_Aok A) (h : w_a_lets A l k t = .inl v) : m_isb v = true := by
  unfold w_a_lets at h; split at h
  · cases h; exact w_k_isq
  · cases h
theorem w_bl_must {p v : Int32} (hA : w_k_Aok A) (h : w_a_must A p = .inl v) : m_isb v = true := by
  unfold w_a_must w_a_one at h; split at h
  · cases h; exact w_k_isq
  · cases h
theorem w_bl_fact {p f b v : Int32} (hA : w_k_Aok A) (h : (w_a_two A p (w_k_wi f 0 3) (w_a_fact A.2.2.2.1 p f b)).1 = .inl v) : m_isb v = true := by
  unfold w_a_two w_a_fact at h
  dsimp only at h
  split at h
  · rename_i h1
    obtain ⟨k, hk, hk3, rfl⟩ := w_k_hx hA.2.2.2.1 h1
    split at h
    · rename_i h2
      obtain ⟨i, hi, rfl⟩ := w_k_iL 3 h2 rfl (by omega)
      cases h
      rw [w_k_nat (by omega), w_k_nat (by omega)]
      exact hA.2.2.2.1.2.2.2.2.2.2.2.2.1 k i hk3 (by omega)
    · cases h
  · cases h
theorem w_op_124 (hT : w_k_HH TR) (hA : w_k_In TR s A) (h1 : m_in (x4 + 1) X.1 = true) (h2 : m_in (x4 + 2) X.1 = true) (h3 : m_in (x4 + 3) X.1 = true) (h4 : m_in (x4 + 4) X.1 = true) (h5 : m_in (x4 + 5) X.1 = true) (h6 : m_in (x4 + 6) X.1 = true) : w_OK (f251_124 X s ex x4) (w_k_nx TR ex x4) := by
  unfold f251_124
  refine w_ok_gd h1 ?_
  unfold f223
  exact w_glue (r := (w_a_force A.2.2.1.length A.2.2.2.1 (X.2 (x4 + 1).toNatClampNeg)).1) (B := (w_k_sV A (w_a_force A.2.2.1.length A.2.2.2.1 (X.2 (x4 + 1).toNatClampNeg)).2)) (cd := w_k_cI) hA (w_k_Aok_V hA.1 (w_v_force (by have := hA.1.2.2.1; omega) hA.1.2.2.2.1)) (w_c_force hA.1 hA.2.1) (fun t ht => w_m_force hA.1 ht) (fun e t he => by unfold w_a_force at he; (repeat' split at he) <;> cases he <;> exact ⟨rfl, by decide⟩) (fun _ _ _ _ _ _ => rfl)
theorem w_op_159 (hT : w_k_HH TR) (hA : w_k_In TR s A) (h1 : m_in (x4 + 1) X.1 = true) (h2 : m_in (x4 + 2) X.1 = true) (h3 : m_in (x4 + 3) X.1 = true) (h4 : m_in (x4 + 4) X.1 = true) (h5 : m_in (x4 + 5) X.1 = true) (h6 : m_in (x4 + 6) X.1 = true) : w_OK (f251_159 X s ex x4) (w_k_nx TR ex x4) := by
  unfold f251_159
  refine w_ok_gd h1 ?_
  refine w_ok_gd h2 ?_
  refine w_ok_gd h3 ?_
  refine w_ok_gd h4 ?_
  refine w_ok_gd h5 ?_
  refine w_ok_gd h6 ?_
  unfold f224
  exact w_glue (r := (w_a_words A (X.2 (x4 + 1).toNatClampNeg) (X.2 (x4 + 2).toNatClampNeg) (X.2 (x4 + 3).toNatClampNeg) (X.2 (x4 + 4).toNatClampNeg) (X.2 (x4 + 5).toNatClampNeg) (X.2 (x4 + 6).toNatClampNeg))) (B := A) (cd := w_k_cI) hA hA.1 (w_c_words hA.1 hA.2.1) (fun t ht => w_m_words hT hA.1 ht) (fun e t he => by unfold w_a_words at he; (repeat' split at he) <;> cases he <;> exact ⟨rfl, by decide⟩) (fun _ _ _ _ _ _ => rfl)
theorem w_op_244 (hT : w_k_HH TR) (hA : w_k_In TR s A) (h1 : m_in (x4 + 1) X.1 = true) (h2 : m_in (x4 + 2) X.1 = true) (h3 : m_in (x4 + 3) X.1 = true) (h4 : m_in (x4 + 4) X.1 = true) (h5 : m_in (x4 + 5) X.1 = true) (h6 : m_in (x4 + 6) X.1 = true) : w_OK (f251_244 X s ex x4) (w_k_nx TR ex x4) := by
  unfold f251_244
  refine w_ok_gd h1 ?_
  refine w_ok_gd h2 ?_
  refine w_ok_gd h3 ?_
  unfold f225
  refine w_glue3 (r := (w_a_lets A (X.2 (x4 + 1).toNatClampNeg) (X.2 (x4 + 2).toNatClampNeg) (X.2 (x4 + 3).toNatClampNeg))) (B := A) (cd := w_k_cI) hA hA.1 (w_c_lets hA.1 hA.2.1) (fun t ht => w_m_lets hT hA.1 ht) (fun e t he => ?_) (fun v t he => ?_) (fun v t w he hw => ?_) (fun c u t w hc => ?_)
  · unfold w_a_lets at he; (repeat' split at he) <;> cases he <;> exact ⟨rfl, by decide⟩
  · rcases w_k_isb (w_bl_lets hA.1 he) with e | e
    · rw [e, if_pos rfl]; rfl
    · rw [e, if_neg w_k_01]; rfl
  · rcases w_k_isb (w_bl_lets hA.1 he) with e | e
    · rw [if_pos rfl, if_pos rfl, e, if_pos rfl, w_k_cm0 _ (by rw [hw, e]), if_pos rfl]
    · rw [if_pos rfl, if_pos rfl, e, if_neg w_k_01, w_k_cm1 _ (by rw [hw, e]), if_pos rfl]
  · rw [if_pos rfl, if_neg hc]
theorem w_op_302 (hT : w_k_HH TR) (hA : w_k_In TR s A) (h1 : m_in (x4 + 1) X.1 = true) (h2 : m_in (x4 + 2) X.1 = true) (h3 : m_in (x4 + 3) X.1 = true) (h4 : m_in (x4 + 4) X.1 = true) (h5 : m_in (x4 + 5) X.1 = true) (h6 : m_in (x4 + 6) X.1 = true) : w_OK (f251_302 X s ex x4) (w_k_nx TR ex x4) := by
  unfold f251_302
  refine w_ok_gd h1 ?_
  refine w_ok_gd h2 ?_
  refine w_ok_gd h3 ?_
  refine w_ok_gd h4 ?_
  refine w_ok_gd h5 ?_
  by_cases hz : X.2 (x4 + 5).toNatClampNeg = 0
  · simp only [if_pos hz]
    unfold f226
    exact w_glue (r := (w_a_pass A.2.2.2.1 (X.2 (x4 + 1).toNatClampNeg) (X.2 (x4 + 2).toNatClampNeg) (X.2 (x4 + 3).toNatClampNeg) (X.2 (x4 + 4).toNatClampNeg) 0).1) (B := (w_k_sV A (w_a_pass A.2.2.2.1 (X.2 (x4 + 1).toNatClampNeg) (X.2 (x4 + 2).toNatClampNeg) (X.2 (x4 + 3).toNatClampNeg) (X.2 (x4 + 4).toNatClampNeg) 0).2)) (cd := w_k_cI) hA (w_k_Aok_V hA.1 (w_v_pass hA.1.2.2.2.1)) (w_c_pass hA.1 rfl hA.2.1) (fun t ht => w_m_pass hA.1 rfl ht) (fun e t he => by unfold w_a_pass at he; (repeat' split at he) <;> cases he <;> exact ⟨rfl, by decide⟩) (fun _ _ _ _ _ _ => rfl)
  · simp only [if_neg hz]
    unfold f226
    exact w_glue (r := (w_a_pass A.2.2.2.1 (X.2 (x4 + 1).toNatClampNeg) (X.2 (x4 + 2).toNatClampNeg) (X.2 (x4 + 3).toNatClampNeg) (X.2 (x4 + 4).toNatClampNeg) 1).1) (B := (w_k_sV A (w_a_pass A.2.2.2.1 (X.2 (x4 + 1).toNatClampNeg) (X.2 (x4 + 2).toNatClampNeg) (X.2 (x4 + 3).toNatClampNeg) (X.2 (x4 + 4).toNatClampNeg) 1).2)) (cd := w_k_cI) hA (w_k_Aok_V hA.1 (w_v_pass hA.1.2.2.2.1)) (w_c_pass hA.1 rfl hA.2.1) (fun t ht => w_m_pass hA.1 rfl ht) (fun e t he => by unfold w_a_pass at he; (repeat' split at he) <;> cases he <;> exact ⟨rfl, by decide⟩) (fun _ _ _ _ _ _ => rfl)
theorem w_op_385 (hT : w_k_HH TR) (hA : w_k_In TR s A) (h1 : m_in (x4 + 1) X.1 = true) (h2 : m_in (x4 + 2) X.1 = true) (h3 : m_in (x4 + 3) X.1 = true) (h4 : m_in (x4 + 4) X.1 = true) (h5 : m_in (x4 + 5) X.1 = true) (h6 : m_in (x4 + 6) X.1 = true) : w_OK (f251_385 X s ex x4) (w_k_nx TR ex x4) := by
  unfold f251_385
  refine w_ok_gd h1 ?_
  refine w_ok_gd h2 ?_
  unfold f227
  exact w_glue (r := (w_a_hand A.2.2.2.1 (X.2 (x4 + 1).toNatClampNeg) (X.2 (x4 + 2).toNatClampNeg))) (B := A) (cd := w_k_cB) hA hA.1 (w_c_hand hA.1 hA.2.1) (fun t ht => w_m_hand hA.1 ht) (fun e t he => by unfold w_a_hand at he; (repeat' split at he) <;> cases he <;> exact ⟨rfl, by decide⟩) (fun _ _ _ _ _ _ => rfl)
theorem w_op_430 (hT : w_k_HH TR) (hA : w_k_In TR s A) (h1 : m_in (x4 + 1) X.1 = true) (h2 : m_in (x4 + 2) X.1 = true) (h3 : m_in (x4 + 3) X.1 = true) (h4 : m_in (x4 + 4) X.1 = true) (h5 : m_in (x4 + 5) X.1 = true) (h6 : m_in (x4 + 6) X.1 = true) : w_OK (f251_430 X s ex x4) (w_k_nx TR ex x4) := by
  unfold f251_430
  refine w_ok_gd h1 ?_
  unfold f228
  exact w_glue (r := (w_a_val A.2.2.2.1 (X.2 (x4 + 1).toNatClampNeg)).1) (B := (w_k_sV A (w_a_val A.2.2.2.1 (X.2 (x4 + 1).toNatClampNeg)).2)) (cd := w_k_cI) hA (w_k_Aok_V hA.1 (w_v_val hA.1.2.2.2.1)) (w_c_val hA.1 hA.2.1) (fun t ht => w_m_val hA.1 ht) (fun e t he => by unfold w_a_val at he; (repeat' split at he) <;> cases he <;> exact ⟨rfl, by decide⟩) (fun _ _ _ _ _ _ => rfl)
theorem w_op_465 (hT : w_k_HH TR) (hA : w_k_In TR s A) (h1 : m_in (x4 + 1) X.1 = true) (h2 : m_in (x4 + 2) X.1 = true) (h3 : m_in (x4 + 3) X.1 = true) (h4 : m_in (x4 + 4) X.1 = true) (h5 : m_in (x4 + 5) X.1 = true) (h6 : m_in (x4 + 6) X.1 = true) : w_OK (f251_465 X s ex x4) (w_k_nx TR ex x4) := by
  unfold f251_465
  refine w_ok_gd h1 ?_
  refine w_ok_gd h2 ?_
  unfold f229
  exact w_glue (r := (w_a_two A (X.2 (x4 + 1).toNatClampNeg) (w_k_wi (X.2 (x4 + 2).toNatClampNeg) 0 9999) (w_a_purse A.2.2.2.1 (X.2 (x4 + 1).toNatClampNeg) (X.2 (x4 + 2).toNatClampNeg))).1) (B := (w_a_two A (X.2 (x4 + 1).toNatClampNeg) (w_k_wi (X.2 (x4 + 2).toNatClampNeg) 0 9999) (w_a_purse A.2.2.2.1 (X.2 (x4 + 1).toNatClampNeg) (X.2 (x4 + 2).toNatClampNeg))).2) (cd := w_k_cB) hA (w_v_purse hA.1) (w_c_purse hA.1 hA.2.1) (fun t ht => w_m_purse hA.1 ht) (fun e t he => by unfold w_a_two w_a_purse at he; (repeat' split at he) <;> cases he <;> exact ⟨rfl, by decide⟩) (fun _ _ _ _ _ _ => rfl)
theorem w_op_510 (hT : w_k_HH TR) (hA : w_k_In TR s A) (h1 : m_in (x4 + 1) X.1 = true) (h2 : m_in (x4 + 2) X.1 = true) (h3 : m_in (x4 + 3) X.1 = true) (h4 : m_in (x4 + 4) X.1 = true) (h5 : m_in (x4 + 5) X.1 = true) (h6 : m_in (x4 + 6) X.1 = true) : w_OK (f251_510 X s ex x4) (w_k_nx TR ex x4) := by
  unfold f251_510
  refine w_ok_gd h1 ?_
  refine w_ok_gd h2 ?_
  refine w_ok_gd h3 ?_
  by_cases hz : X.2 (x4 + 3).toNatClampNeg = 0
  · simp only [if_pos hz]
    unfold f230
    refine w_glue3 (r := (w_a_two A (X.2 (x4 + 1).toNatClampNeg) (w_k_wi (X.2 (x4 + 2).toNatClampNeg) 0 3) (w_a_fact A.2.2.2.1 (X.2 (x4 + 1).toNatClampNeg) (X.2 (x4 + 2).toNatClampNeg) 0)).1) (B := (w_a_two A (X.2 (x4 + 1).toNatClampNeg) (w_k_wi (X.2 (x4 + 2).toNatClampNeg) 0 3) (w_a_fact A.2.2.2.1 (X.2 (x4 + 1).toNatClampNeg) (X.2 (x4 + 2).toNatClampNeg) 0)).2) (cd := w_k_cB) hA (w_v_fact hA.1 rfl) (w_c_fact hA.1 rfl hA.2.1) (fun t ht => w_m_fact hA.1 rfl ht) (fun e t he => ?_) (fun v t he => ?_) (fun v t w he hw => ?_) (fun c u t w hc => ?_)
    · unfold w_a_two w_a_fact at he; (repeat' split at he) <;> cases he <;> exact ⟨rfl, by decide⟩
    · rcases w_k_isb (w_bl_fact hA.1 he) with e | e
      · rw [e, if_pos rfl]; rfl
      · rw [e, if_neg w_k_01]; rfl
    · rcases w_k_isb (w_bl_fact hA.1 he) with e | e
      · rw [if_pos rfl, if_pos rfl, e, if_pos rfl, w_k_cm0 _ (by rw [hw, e]), if_pos rfl]
      · rw [if_pos rfl, if_pos rfl, e, if_neg w_k_01, w_k_cm1 _ (by rw [hw, e]), if_pos rfl]
    · rw [if_pos rfl, if_neg hc]
  · simp only [if_neg hz]
    unfold f230
    refine w_glue3 (r := (w_a_two A (X.2 (x4 + 1).toNatClampNeg) (w_k_wi (X.2 (x4 + 2).toNatClampNeg) 0 3) (w_a_fact A.2.2.2.1 (X.2 (x4 + 1).toNatClampNeg) (X.2 (x4 + 2).toNatClampNeg) 1)).1) (B := (w_a_two A (X.2 (x4 + 1).toNatClampNeg) (w_k_wi (X.2 (x4 + 2).toNatClampNeg) 0 3) (w_a_fact A.2.2.2.1 (X.2 (x4 + 1).toNatClampNeg) (X.2 (x4 + 2).toNatClampNeg) 1)).2) (cd := w_k_cB) hA (w_v_fact hA.1 rfl) (w_c_fact hA.1 rfl hA.2.1) (fun t ht => w_m_fact hA.1 rfl ht) (fun e t he => ?_) (fun v t he => ?_) (fun v t w he hw => ?_) (fun c u t w hc => ?_)
    · unfold w_a_two w_a_fact at he; (repeat' split at he) <;> cases he <;> exact ⟨rfl, by decide⟩
    · rcases w_k_isb (w_bl_fact hA.1 he) with e | e
      · rw [e, if_pos rfl]; rfl
      · rw [e, if_neg w_k_01]; rfl
    · rcases w_k_isb (w_bl_fact hA.1 he) with e | e
      · rw [if_pos rfl, if_pos rfl, e, if_pos rfl, w_k_cm0 _ (by rw [hw, e]), if_pos rfl]
      · rw [if_pos rfl, if_pos rfl, e, if_neg w_k_01, w_k_cm1 _ (by rw [hw, e]), if_pos rfl]
    · rw [if_pos rfl, if_neg hc]
theorem w_op_576 (hT : w_k_HH TR) (hA : w_k_In TR s A) (h1 : m_in (x4 + 1) X.1 = true) (h2 : m_in (x4 + 2) X.1 = true) (h3 : m_in (x4 + 3) X.1 = true) (h4 : m_in (x4 + 4) X.1 = true) (h5 : m_in (x4 + 5) X.1 = true) (h6 : m_in (x4 + 6) X.1 = true) : w_OK (f251_576 X s ex x4) (w_k_nx TR ex x4) := by
  unfold f251_576
  refine w_ok_gd h1 ?_
  refine w_ok_gd h2 ?_
  unfold f231
  exact w_glue (r := (w_a_harm A.2.2.2.1 (X.2 (x4 + 1).toNatClampNeg) (X.2 (x4 + 2).toNatClampNeg)).1) (B := (w_k_sV A (w_a_harm A.2.2.2.1 (X.2 (x4 + 1).toNatClampNeg) (X.2 (x4 + 2).toNatClampNeg)).2)) (cd := w_k_cI) hA (w_k_Aok_V hA.1 (w_v_harm hA.1.2.2.2.1)) (w_c_harm hA.1 hA.2.1) (fun t ht => w_m_harm hA.1 ht) (fun e t he => by unfold w_a_harm at he; (repeat' split at he) <;> cases he <;> exact ⟨rfl, by decide⟩) (fun _ _ _ _ _ _ => rfl)
theorem w_op_628 (hT : w_k_HH TR) (hA : w_k_In TR s A) (h1 : m_in (x4 + 1) X.1 = true) (h2 : m_in (x4 + 2) X.1 = true) (h3 : m_in (x4 + 3) X.1 = true) (h4 : m_in (x4 + 4) X.1 = true) (h5 : m_in (x4 + 5) X.1 = true) (h6 : m_in (x4 + 6) X.1 = true) : w_OK (f251_628 X s ex x4) (w_k_nx TR ex x4) := by
  unfold f251_628
  refine w_ok_gd h1 ?_
  refine w_ok_gd h2 ?_
  unfold f232
  exact w_glue (r := (w_a_name A (X.2 (x4 + 1).toNatClampNeg) (X.2 (x4 + 2).toNatClampNeg))) (B := A) (cd := w_k_cB) hA hA.1 (w_c_name hA.1 hA.2.1) (fun t ht => w_m_name hT hA.1 ht) (fun e t he => by unfold w_a_name w_a_two' at he; (repeat' split at he) <;> cases he <;> exact ⟨rfl, by decide⟩) (fun _ _ _ _ _ _ => rfl)
theorem w_op_673 (hT : w_k_HH TR) (hA : w_k_In TR s A) (h1 : m_in (x4 + 1) X.1 = true) (h2 : m_in (x4 + 2) X.1 = true) (h3 : m_in (x4 + 3) X.1 = true) (h4 : m_in (x4 + 4) X.1 = true) (h5 : m_in (x4 + 5) X.1 = true) (h6 : m_in (x4 + 6) X.1 = true) : w_OK (f251_673 X s ex x4) (w_k_nx TR ex x4) := by
  unfold f251_673
  refine w_ok_gd h1 ?_
  unfold f233
  exact w_glue (r := (w_a_claim A (X.2 (x4 + 1).toNatClampNeg))) (B := A) (cd := w_k_cN) hA hA.1 (w_c_claim hA.1 hA.2.1) (fun t ht => w_m_claim hT hA.1 ht) (fun e t he => by unfold w_a_claim w_a_one at he; (repeat' split at he) <;> cases he <;> exact ⟨rfl, by decide⟩) (fun _ _ _ _ _ _ => rfl)
theorem w_op_708 (hT : w_k_HH TR) (hA : w_k_In TR s A) (h1 : m_in (x4 + 1) X.1 = true) (h2 : m_in (x4 + 2) X.1 = true) (h3 : m_in (x4 + 3) X.1 = true) (h4 : m_in (x4 + 4) X.1 = true) (h5 : m_in (x4 + 5) X.1 = true) (h6 : m_in (x4 + 6) X.1 = true) : w_OK (f251_708 X s ex x4) (w_k_nx TR ex x4) := by
  unfold f251_708
  refine w_ok_gd h1 ?_
  unfold f234
  exact w_glue (r := (w_a_whom A (X.2 (x4 + 1).toNatClampNeg))) (B := A) (cd := w_k_cN) hA hA.1 (w_c_whom hA.1 hA.2.1) (fun t ht => w_m_whom hT hA.1 ht) (fun e t he => by unfold w_a_whom w_a_one at he; (repeat' split at he) <;> cases he <;> exact ⟨rfl, by decide⟩) (fun _ _ _ _ _ _ => rfl)
theorem w_op_743 (hT : w_k_HH TR) (hA : w_k_In TR s A) (h1 : m_in (x4 + 1) X.1 = true) (h2 : m_in (x4 + 2) X.1 = true) (h3 : m_in (x4 + 3) X.1 = true) (h4 : m_in (x4 + 4) X.1 = true) (h5 : m_in (x4 + 5) X.1 = true) (h6 : m_in (x4 + 6) X.1 = true) : w_OK (f251_743 X s ex x4) (w_k_nx TR ex x4) := by
  unfold f251_743
  refine w_ok_gd h1 ?_
  unfold f235
  exact w_glue (r := (w_a_pays A (X.2 (x4 + 1).toNatClampNeg))) (B := A) (cd := w_k_cN) hA hA.1 (w_c_pays hA.1 hA.2.1) (fun t ht => w_m_pays hT hA.1 ht) (fun e t he => by unfold w_a_pays w_a_one at he; (repeat' split at he) <;> cases he <;> exact ⟨rfl, by decide⟩) (fun _ _ _ _ _ _ => rfl)
theorem w_op_778 (hT : w_k_HH TR) (hA : w_k_In TR s A) (h1 : m_in (x4 + 1) X.1 = true) (h2 : m_in (x4 + 2) X.1 = true) (h3 : m_in (x4 + 3) X.1 = true) (h4 : m_in (x4 + 4) X.1 = true) (h5 : m_in (x4 + 5) X.1 = true) (h6 : m_in (x4 + 6) X.1 = true) : w_OK (f251_778 X s ex x4) (w_k_nx TR ex x4) := by
  unfold f251_778
  refine w_ok_gd h1 ?_
  unfold f236
  exact w_glue (r := (w_a_bears A (X.2 (x4 + 1).toNatClampNeg))) (B := A) (cd := w_k_cN) hA hA.1 (w_c_bears hA.1 hA.2.1) (fun t ht => w_m_bears hT hA.1 ht) (fun e t he => by unfold w_a_bears w_a_one at he; (repeat' split at he) <;> cases he <;> exact ⟨rfl, by decide⟩) (fun _ _ _ _ _ _ => rfl)
theorem w_op_813 (hT : w_k_HH TR) (hA : w_k_In TR s A) (h1 : m_in (x4 + 1) X.1 = true) (h2 : m_in (x4 + 2) X.1 = true) (h3 : m_in (x4 + 3) X.1 = true) (h4 : m_in (x4 + 4) X.1 = true) (h5 : m_in (x4 + 5) X.1 = true) (h6 : m_in (x4 + 6) X.1 = true) : w_OK (f251_813 X s ex x4) (w_k_nx TR ex x4) := by
  unfold f251_813
  refine w_ok_gd h1 ?_
  unfold f237
  refine w_glue3 (r := (w_a_must A (X.2 (x4 + 1).toNatClampNeg))) (B := A) (cd := w_k_cN) hA hA.1 (w_c_must hA.1 hA.2.1) (fun t ht => w_m_must hT hA.1 ht) (fun e t he => ?_) (fun v t he => ?_) (fun v t w he hw => ?_) (fun c u t w hc => ?_)
  · unfold w_a_must w_a_one at he; (repeat' split at he) <;> cases he <;> exact ⟨rfl, by decide⟩
  · rcases w_k_isb (w_bl_must hA.1 he) with e | e
    · rw [e, if_pos rfl]; rfl
    · rw [e, if_neg w_k_01]; rfl
  · rcases w_k_isb (w_bl_must hA.1 he) with e | e
    · rw [if_pos rfl, if_pos rfl, e, if_pos rfl, w_k_cm0 _ (by rw [hw, e]), if_pos rfl]
    · rw [if_pos rfl, if_pos rfl, e, if_neg w_k_01, w_k_cm1 _ (by rw [hw, e]), if_pos rfl]
  · rw [if_pos rfl, if_neg hc]
theorem w_op_851 (hT : w_k_HH TR) (hA : w_k_In TR s A) (h1 : m_in (x4 + 1) X.1 = true) (h2 : m_in (x4 + 2) X.1 = true) (h3 : m_in (x4 + 3) X.1 = true) (h4 : m_in (x4 + 4) X.1 = true) (h5 : m_in (x4 + 5) X.1 = true) (h6 : m_in (x4 + 6) X.1 = true) : w_OK (f251_851 X s ex x4) (w_k_nx TR ex x4) := by
  unfold f251_851
  refine w_ok_gd h1 ?_
  unfold f238
  exact w_glue (r := (w_a_frees A (X.2 (x4 + 1).toNatClampNeg))) (B := A) (cd := w_k_cN) hA hA.1 (w_c_frees hA.1 hA.2.1) (fun t ht => w_m_frees hT hA.1 ht) (fun e t he => by unfold w_a_frees w_a_one at he; (repeat' split at he) <;> cases he <;> exact ⟨rfl, by decide⟩) (fun _ _ _ _ _ _ => rfl)
theorem w_op_886 (hT : w_k_HH TR) (hA : w_k_In TR s A) (h1 : m_in (x4 + 1) X.1 = true) (h2 : m_in (x4 + 2) X.1 = true) (h3 : m_in (x4 + 3) X.1 = true) (h4 : m_in (x4 + 4) X.1 = true) (h5 : m_in (x4 + 5) X.1 = true) (h6 : m_in (x4 + 6) X.1 = true) : w_OK (f251_886 X s ex x4) (w_k_nx TR ex x4) := by
  unfold f251_886
  refine w_ok_gd h1 ?_
  refine w_ok_gd h2 ?_
  refine w_ok_gd h3 ?_
  unfold f239
  exact w_glue (r := (w_a_quest A.2.2.2.1 (X.2 (x4 + 1).toNatClampNeg) (X.2 (x4 + 2).toNatClampNeg) (X.2 (x4 + 3).toNatClampNeg)).1) (B := (w_k_sV A (w_a_quest A.2.2.2.1 (X.2 (x4 + 1).toNatClampNeg) (X.2 (x4 + 2).toNatClampNeg) (X.2 (x4 + 3).toNatClampNeg)).2)) (cd := w_k_cB) hA (w_k_Aok_V hA.1 (w_v_quest hA.1.2.2.2.1)) (w_c_quest hA.1 hA.2.1) (fun t ht => w_m_quest hA.1 ht) (fun e t he => by unfold w_a_quest at he; (repeat' split at he) <;> cases he <;> exact ⟨rfl, by decide⟩) (fun _ _ _ _ _ _ => rfl)
theorem w_op_941 (hT : w_k_HH TR) (hA : w_k_In TR s A) (h1 : m_in (x4 + 1) X.1 = true) (h2 : m_in (x4 + 2) X.1 = true) (h3 : m_in (x4 + 3) X.1 = true) (h4 : m_in (x4 + 4) X.1 = true) (h5 : m_in (x4 + 5) X.1 = true) (h6 : m_in (x4 + 6) X.1 = true) : w_OK (f251_941 X s ex x4) (w_k_nx TR ex x4) := by
  unfold f251_941
  refine w_ok_gd h1 ?_
  refine w_ok_gd h2 ?_
  unfold f240
  exact w_glue (r := (w_a_inCase A (X.2 (x4 + 1).toNatClampNeg) (X.2 (x4 + 2).toNatClampNeg))) (B := A) (cd := w_k_cB) hA hA.1 (w_c_inCase hA.1 hA.2.1) (fun t ht => w_m_inCase hT hA.1 ht) (fun e t he => by unfold w_a_inCase w_a_two' at he; (repeat' split at he) <;> cases he <;> exact ⟨rfl, by decide⟩) (fun _ _ _ _ _ _ => rfl)
theorem w_op_986 (hT : w_k_HH TR) (hA : w_k_In TR s A) (h1 : m_in (x4 + 1) X.1 = true) (h2 : m_in (x4 + 2) X.1 = true) (h3 : m_in (x4 + 3) X.1 = true) (h4 : m_in (x4 + 4) X.1 = true) (h5 : m_in (x4 + 5) X.1 = true) (h6 : m_in (x4 + 6) X.1 = true) : w_OK (f251_986 X s ex x4) (w_k_nx TR ex x4) := by
  unfold f251_986
  refine w_ok_gd h1 ?_
  unfold f241
  exact w_glue (r := (w_a_sure A (X.2 (x4 + 1).toNatClampNeg))) (B := A) (cd := w_k_cN) hA hA.1 (w_c_sure hA.1 hA.2.1) (fun t ht => w_m_sure hT hA.1 ht) (fun e t he => by unfold w_a_sure w_a_one at he; (repeat' split at he) <;> cases he <;> exact ⟨rfl, by decide⟩) (fun _ _ _ _ _ _ => rfl)
theorem w_op_1021 (hT : w_k_HH TR) (hA : w_k_In TR s A) (h1 : m_in (x4 + 1) X.1 = true) (h2 : m_in (x4 + 2) X.1 = true) (h3 : m_in (x4 + 3) X.1 = true) (h4 : m_in (x4 + 4) X.1 = true) (h5 : m_in (x4 + 5) X.1 = true) (h6 : m_in (x4 + 6) X.1 = true) : w_OK (f251_1021 X s ex x4) (w_k_nx TR ex x4) := by
  unfold f251_1021
  refine w_ok_gd h1 ?_
  unfold f242
  exact w_glue (r := (w_a_cases A (X.2 (x4 + 1).toNatClampNeg))) (B := A) (cd := w_k_cN) hA hA.1 (w_c_cases hA.1 hA.2.1) (fun t ht => w_m_cases hT hA.1 ht) (fun e t he => by unfold w_a_cases w_a_one at he; (repeat' split at he) <;> cases he <;> exact ⟨rfl, by decide⟩) (fun _ _ _ _ _ _ => rfl)
theorem w_op_1056 (hT : w_k_HH TR) (hA : w_k_In TR s A) (h1 : m_in (x4 + 1) X.1 = true) (h2 : m_in (x4 + 2) X.1 = true) (h3 : m_in (x4 + 3) X.1 = true) (h4 : m_in (x4 + 4) X.1 = true) (h5 : m_in (x4 + 5) X.1 = true) (h6 : m_in (x4 + 6) X.1 = true) : w_OK (f251_1056 X s ex x4) (w_k_nx TR ex x4) := by
  unfold f251_1056
  refine w_ok_gd h1 ?_
  unfold f243
  exact w_glue (r := (w_a_hangs A (X.2 (x4 + 1).toNatClampNeg))) (B := A) (cd := w_k_cN) hA hA.1 (w_c_hangs hA.1 hA.2.1) (fun t ht => w_m_hangs hT hA.1 ht) (fun e t he => by unfold w_a_hangs w_a_one at he; (repeat' split at he) <;> cases he <;> exact ⟨rfl, by decide⟩) (fun _ _ _ _ _ _ => rfl)
theorem w_op_1098 (hT : w_k_HH TR) (hA : w_k_In TR s A) (h1 : m_in (x4 + 1) X.1 = true) (h2 : m_in (x4 + 2) X.1 = true) (h3 : m_in (x4 + 3) X.1 = true) (h4 : m_in (x4 + 4) X.1 = true) (h5 : m_in (x4 + 5) X.1 = true) (h6 : m_in (x4 + 6) X.1 = true) : w_OK (f251_1098 X s ex x4) (w_k_nx TR ex x4) := by
  unfold f251_1098
  refine w_ok_gd h1 ?_
  refine w_ok_gd h2 ?_
  by_cases hz : X.2 (x4 + 2).toNatClampNeg = 0
  · simp only [if_pos hz]
    unfold f244
    exact w_glue (r := (w_a_find A.2.2.2.1 (X.2 (x4 + 1).toNatClampNeg) 0).1) (B := (w_k_sV A (w_a_find A.2.2.2.1 (X.2 (x4 + 1).toNatClampNeg) 0).2)) (cd := w_k_cN) hA (w_k_Aok_V hA.1 (w_v_find rfl hA.1.2.2.2.1)) (w_c_find hA.1 rfl hA.2.1) (fun t ht => w_m_find hA.1 rfl ht) (fun e t he => by unfold w_a_find at he; (repeat' split at he) <;> cases he <;> exact ⟨rfl, by decide⟩) (fun _ _ _ _ _ _ => rfl)
  · simp only [if_neg hz]
    unfold f244
    exact w_glue (r := (w_a_find A.2.2.2.1 (X.2 (x4 + 1).toNatClampNeg) 1).1) (B := (w_k_sV A (w_a_find A.2.2.2.1 (X.2 (x4 + 1).toNatClampNeg) 1).2)) (cd := w_k_cN) hA (w_k_Aok_V hA.1 (w_v_find rfl hA.1.2.2.2.1)) (w_c_find hA.1 rfl hA.2.1) (fun t ht => w_m_find hA.1 rfl ht) (fun e t he => by unfold w_a_find at he; (repeat' split at he) <;> cases he <;> exact ⟨rfl, by decide⟩) (fun _ _ _ _ _ _ => rfl)
theorem w_op_1158 (hT : w_k_HH TR) (hA : w_k_In TR s A) (h1 : m_in (x4 + 1) X.1 = true) (h2 : m_in (x4 + 2) X.1 = true) (h3 : m_in (x4 + 3) X.1 = true) (h4 : m_in (x4 + 4) X.1 = true) (h5 : m_in (x4 + 5) X.1 = true) (h6 : m_in (x4 + 6) X.1 = true) : w_OK (f251_1158 X s ex x4) (w_k_nx TR ex x4) := by
  unfold f251_1158
  refine w_ok_gd h1 ?_
  refine w_ok_gd h2 ?_
  unfold f245
  exact w_glue (r := (w_a_found A (X.2 (x4 + 1).toNatClampNeg) (X.2 (x4 + 2).toNatClampNeg))) (B := A) (cd := w_k_cB) hA hA.1 (w_c_found hA.1 hA.2.1) (fun t ht => w_m_found hT hA.1 ht) (fun e t he => by unfold w_a_found w_a_two' at he; (repeat' split at he) <;> cases he <;> exact ⟨rfl, by decide⟩) (fun _ _ _ _ _ _ => rfl)
theorem w_op_1203 (hT : w_k_HH TR) (hA : w_k_In TR s A) (h1 : m_in (x4 + 1) X.1 = true) (h2 : m_in (x4 + 2) X.1 = true) (h3 : m_in (x4 + 3) X.1 = true) (h4 : m_in (x4 + 4) X.1 = true) (h5 : m_in (x4 + 5) X.1 = true) (h6 : m_in (x4 + 6) X.1 = true) : w_OK (f251_1203 X s ex x4) (w_k_nx TR ex x4) := by
  unfold f251_1203
  refine w_ok_gd h1 ?_
  refine w_ok_gd h2 ?_
  unfold f246
  exact w_glue (r := (w_a_put A.2.2.2.1 (X.2 (x4 + 1).toNatClampNeg) (X.2 (x4 + 2).toNatClampNeg)).1) (B := (w_k_sV A (w_a_put A.2.2.2.1 (X.2 (x4 + 1).toNatClampNeg) (X.2 (x4 + 2).toNatClampNeg)).2)) (cd := w_k_cI) hA (w_k_Aok_V hA.1 (w_v_put hA.1.2.2.2.1)) (w_c_put hA.1 hA.2.1) (fun t ht => w_m_put hA.1 ht) (fun e t he => by unfold w_a_put at he; (repeat' split at he) <;> cases he <;> exact ⟨rfl, by decide⟩) (fun _ _ _ _ _ _ => rfl)
theorem w_op_1248 (hT : w_k_HH TR) (hA : w_k_In TR s A) (h1 : m_in (x4 + 1) X.1 = true) (h2 : m_in (x4 + 2) X.1 = true) (h3 : m_in (x4 + 3) X.1 = true) (h4 : m_in (x4 + 4) X.1 = true) (h5 : m_in (x4 + 5) X.1 = true) (h6 : m_in (x4 + 6) X.1 = true) : w_OK (f251_1248 X s ex x4) (w_k_nx TR ex x4) := by
  unfold f251_1248
  refine w_ok_gd h1 ?_
  refine w_ok_gd h2 ?_
  unfold f247
  exact w_glue (r := (w_a_share A (X.2 (x4 + 1).toNatClampNeg) (X.2 (x4 + 2).toNatClampNeg))) (B := A) (cd := w_k_cI) hA hA.1 (w_c_share hA.1 hA.2.1) (fun t ht => w_m_share hT hA.1 ht) (fun e t he => by unfold w_a_share at he; (repeat' split at he) <;> cases he <;> exact ⟨rfl, by decide⟩) (fun _ _ _ _ _ _ => rfl)
theorem w_op_1293 (hT : w_k_HH TR) (hA : w_k_In TR s A) (h1 : m_in (x4 + 1) X.1 = true) (h2 : m_in (x4 + 2) X.1 = true) (h3 : m_in (x4 + 3) X.1 = true) (h4 : m_in (x4 + 4) X.1 = true) (h5 : m_in (x4 + 5) X.1 = true) (h6 : m_in (x4 + 6) X.1 = true) : w_OK (f251_1293 X s ex x4) (w_k_nx TR ex x4) := by
  unfold f251_1293
  refine w_ok_gd h1 ?_
  refine w_ok_gd h2 ?_
  unfold f248
  exact w_glue (r := (w_a_two A (X.2 (x4 + 1).toNatClampNeg) (w_k_wi (X.2 (x4 + 2).toNatClampNeg) 0 9999) (w_a_judge A.2.2.2.1 (X.2 (x4 + 1).toNatClampNeg) (X.2 (x4 + 2).toNatClampNeg))).1) (B := (w_a_two A (X.2 (x4 + 1).toNatClampNeg) (w_k_wi (X.2 (x4 + 2).toNatClampNeg) 0 9999) (w_a_judge A.2.2.2.1 (X.2 (x4 + 1).toNatClampNeg) (X.2 (x4 + 2).toNatClampNeg))).2) (cd := w_k_cB) hA (w_v_judge hA.1) (w_c_judge hA.1 hA.2.1) (fun t ht => w_m_judge hA.1 ht) (fun e t he => by unfold w_a_two w_a_judge at he; (repeat' split at he) <;> cases he <;> exact ⟨rfl, by decide⟩) (fun _ _ _ _ _ _ => rfl)
theorem w_op_1345 (hT : w_k_HH TR) (hA : w_k_In TR s A) (h1 : m_in (x4 + 1) X.1 = true) (h2 : m_in (x4 + 2) X.1 = true) (h3 : m_in (x4 + 3) X.1 = true) (h4 : m_in (x4 + 4) X.1 = true) (h5 : m_in (x4 + 5) X.1 = true) (h6 : m_in (x4 + 6) X.1 = true) : w_OK (f251_1345 X s ex x4) (w_k_nx TR ex x4) := by
  unfold f251_1345
  refine w_ok_gd h1 ?_
  refine w_ok_gd h2 ?_
  unfold f249
  exact w_glue (r := (w_a_part A (X.2 (x4 + 1).toNatClampNeg) (X.2 (x4 + 2).toNatClampNeg))) (B := A) (cd := w_k_cI) hA hA.1 (w_c_part hA.1 hA.2.1) (fun t ht => w_m_part hT hA.1 ht) (fun e t he => by unfold w_a_part at he; (repeat' split at he) <;> cases he <;> exact ⟨rfl, by decide⟩) (fun _ _ _ _ _ _ => rfl)
theorem w_op_1390 (hT : w_k_HH TR) (hA : w_k_In TR s A) (h1 : m_in (x4 + 1) X.1 = true) (h2 : m_in (x4 + 2) X.1 = true) (h3 : m_in (x4 + 3) X.1 = true) (h4 : m_in (x4 + 4) X.1 = true) (h5 : m_in (x4 + 5) X.1 = true) (h6 : m_in (x4 + 6) X.1 = true) : w_OK (f251_1390 X s ex x4) (w_k_nx TR ex x4) := by
  unfold f251_1390
  refine w_ok_gd h1 ?_
  refine w_ok_gd h2 ?_
  unfold f250
  exact w_glue (r := (w_a_beside A (X.2 (x4 + 1).toNatClampNeg) (X.2 (x4 + 2).toNatClampNeg))) (B := A) (cd := w_k_cB) hA hA.1 (w_c_beside hA.1 hA.2.1) (fun t ht => w_m_beside hT hA.1 ht) (fun e t he => by unfold w_a_beside w_a_two' at he; (repeat' split at he) <;> cases he <;> exact ⟨rfl, by decide⟩) (fun _ _ _ _ _ _ => rfl)
theorem w_op_25 (hT : w_k_HH TR) (hA : w_k_In TR s A) (h1 : m_in (x4 + 1) X.1 = true) (h2 : m_in (x4 + 2) X.1 = true) (h3 : m_in (x4 + 3) X.1 = true) (h4 : m_in (x4 + 4) X.1 = true) (h5 : m_in (x4 + 5) X.1 = true) (h6 : m_in (x4 + 6) X.1 = true) : w_OK (f251_25 X s ex x4) (w_k_nx TR ex x4) := by
  unfold f251_25
  refine w_ok_gd h1 ?_
  refine w_ok_gd h2 ?_
  refine w_ok_gd h3 ?_
  refine w_ok_gd h4 ?_
  refine w_ok_gd h5 ?_
  exact w_glue2 (v := (w_a_feed A (X.2 (x4 + 1).toNatClampNeg) (X.2 (x4 + 2).toNatClampNeg) (X.2 (x4 + 3).toNatClampNeg) (X.2 (x4 + 4).toNatClampNeg) (X.2 (x4 + 5).toNatClampNeg)).1) (B := (w_a_feed A (X.2 (x4 + 1).toNatClampNeg) (X.2 (x4 + 2).toNatClampNeg) (X.2 (x4 + 3).toNatClampNeg) (X.2 (x4 + 4).toNatClampNeg) (X.2 (x4 + 5).toNatClampNeg)).2) hA (w_v_feed hA.1) (w_c_feed hA.1 hA.2.1) (fun t ht => w_m_feed hA.1 ht)
theorem w_op_1091 (hT : w_k_HH TR) (hA : w_k_In TR s A) (h1 : m_in (x4 + 1) X.1 = true) (h2 : m_in (x4 + 2) X.1 = true) (h3 : m_in (x4 + 3) X.1 = true) (h4 : m_in (x4 + 4) X.1 = true) (h5 : m_in (x4 + 5) X.1 = true) (h6 : m_in (x4 + 6) X.1 = true) : w_OK (f251_1091 X s ex x4) (w_k_nx TR ex x4) := by
  unfold f251_1091
  exact w_glue2 (v := (nI (w_a_least A))) (B := A) hA hA.1 (w_c_least hA.1 hA.2.1) (fun t ht => w_m_least hT hA.1 ht)
theorem w_op_1151 (hT : w_k_HH TR) (hA : w_k_In TR s A) (h1 : m_in (x4 + 1) X.1 = true) (h2 : m_in (x4 + 2) X.1 = true) (h3 : m_in (x4 + 3) X.1 = true) (h4 : m_in (x4 + 4) X.1 = true) (h5 : m_in (x4 + 5) X.1 = true) (h6 : m_in (x4 + 6) X.1 = true) : w_OK (f251_1151 X s ex x4) (w_k_nx TR ex x4) := by
  unfold f251_1151
  exact w_glue2 (v := (w_a_title A)) (B := A) hA hA.1 (w_c_title hA.1 hA.2.1) (fun t ht => w_m_title hT hA.1 ht)
theorem w_op_1338 (hT : w_k_HH TR) (hA : w_k_In TR s A) (h1 : m_in (x4 + 1) X.1 = true) (h2 : m_in (x4 + 2) X.1 = true) (h3 : m_in (x4 + 3) X.1 = true) (h4 : m_in (x4 + 4) X.1 = true) (h5 : m_in (x4 + 5) X.1 = true) (h6 : m_in (x4 + 6) X.1 = true) : w_OK (f251_1338 X s ex x4) (w_k_nx TR ex x4) := by
  unfold f251_1338
  exact w_glue2 (v := (w_a_wrong A)) (B := A) hA hA.1 (w_c_wrong hA.1 hA.2.1) (fun t ht => w_m_wrong hT hA.1 ht)
theorem w_op_1435 (hT : w_k_HH TR) (hA : w_k_In TR s A) (h1 : m_in (x4 + 1) X.1 = true) (h2 : m_in (x4 + 2) X.1 = true) (h3 : m_in (x4 + 3) X.1 = true) (h4 : m_in (x4 + 4) X.1 = true) (h5 : m_in (x4 + 5) X.1 = true) (h6 : m_in (x4 + 6) X.1 = true) : w_OK (f251_1435 X s ex x4) (w_k_nx TR ex x4) := by
  unfold f251_1435
  exact w_glue2 (v := (w_a_image A).1) (B := (w_a_image A).2) hA (w_v_image hA.1) (w_c_image hA.1 hA.2.1) (fun t ht => w_m_image hA.1 ht)
theorem w_op_1442 (hT : w_k_HH TR) (hA : w_k_In TR s A) (h1 : m_in (x4 + 1) X.1 = true) (h2 : m_in (x4 + 2) X.1 = true) (h3 : m_in (x4 + 3) X.1 = true) (h4 : m_in (x4 + 4) X.1 = true) (h5 : m_in (x4 + 5) X.1 = true) (h6 : m_in (x4 + 6) X.1 = true) : w_OK (f251_1442 X s ex x4) (w_k_nx TR ex x4) := by
  unfold f251_1442
  exact w_glue2 (v := (w_a_rest A).1) (B := (w_a_rest A).2) hA (w_v_rest hA.1) (w_c_rest hA.1 hA.2.1) (fun t ht => w_m_rest hA.1 ht)
theorem w_op_117 (hT : w_k_HH TR) (hA : w_k_In TR s A) (h1 : m_in (x4 + 1) X.1 = true) (h2 : m_in (x4 + 2) X.1 = true) (h3 : m_in (x4 + 3) X.1 = true) (h4 : m_in (x4 + 4) X.1 = true) (h5 : m_in (x4 + 5) X.1 = true) (h6 : m_in (x4 + 6) X.1 = true) : w_OK (f251_117 X s ex x4) (w_k_nx TR ex x4) := by
  unfold f251_117
  rw [w_c_fault hA.2.1, w_k_bs]
  obtain ⟨⟨u, t⟩, e, g1, g2, g3⟩ := w_m_fault hA.1 hA.2.2
  simp only at g1 g2 g3
  rw [e, w_k_bd, if_pos g3.symm]
  exact w_ok_some ⟨A, _, _, rfl, ⟨hA.1, w_k_CI_cg hA.1 (fun y hy _ => g2 y (Or.inl hy)) hA.2.1, g1⟩, by omega⟩
theorem w_op_621 (hT : w_k_HH TR) (hA : w_k_In TR s A) (h1 : m_in (x4 + 1) X.1 = true) (h2 : m_in (x4 + 2) X.1 = true) (h3 : m_in (x4 + 3) X.1 = true) (h4 : m_in (x4 + 4) X.1 = true) (h5 : m_in (x4 + 5) X.1 = true) (h6 : m_in (x4 + 6) X.1 = true) : w_OK (f251_621 X s ex x4) (w_k_nx TR ex x4) := by
  unfold f251_621
  rw [w_c_holder hA.1 hA.2.1, w_k_bs]
  obtain ⟨⟨u, t⟩, e, g1, g2, g3⟩ := w_m_holder hA.1 hA.2.2
  simp only at g1 g2 g3
  rw [e, w_k_bd, if_pos g3.symm]
  exact w_ok_some ⟨A, _, _, rfl, ⟨hA.1, w_k_CI_cg hA.1 (fun y hy _ => g2 y (Or.inl hy)) hA.2.1, g1⟩, by omega⟩
theorem w_op_1449 (hT : w_k_HH TR) (hA : w_k_In TR s A) (h1 : m_in (x4 + 1) X.1 = true) (h2 : m_in (x4 + 2) X.1 = true) (h3 : m_in (x4 + 3) X.1 = true) (h4 : m_in (x4 + 4) X.1 = true) (h5 : m_in (x4 + 5) X.1 = true) (h6 : m_in (x4 + 6) X.1 = true) : w_OK (f251_1449 X s ex x4) (w_k_nx TR ex x4) := by
  unfold f251_1449
  refine w_ok_gd h1 ?_
  rw [w_c_count (w := (X.2 (x4 + 1).toNatClampNeg)) hA.1 hA.2.1, w_k_bs]
  obtain ⟨⟨u, t⟩, e, g1, g2, g3⟩ := w_m_count (w := (X.2 (x4 + 1).toNatClampNeg)) hA.1 hA.2.2
  simp only at g1 g2 g3
  rw [e, w_k_bd, if_pos g3.symm]
  exact w_ok_some ⟨A, _, _, rfl, ⟨hA.1, w_k_CI_cg hA.1 (fun y hy _ => g2 y (Or.inl hy)) hA.2.1, g1⟩, by omega⟩
end OPS
/-! the law's loop -/
def w_k_H82 (TR : w_k_TR) : Prop := ∀ (X : m_X) (s : g_S) (A : w_k_A) (ex : Nat) (x4 : Int32), w_k_In TR s A → m_in (x4 + 1) X.1 = true → w_OK (f251_82 X s ex x4) (w_k_nx TR ex x4)
theorem w_op_all {TR : w_k_TR} {X : m_X} {s : g_S} {A : w_k_A} {ex p : Nat} (hT : w_k_HH TR) (h82 : w_k_H82 TR) (hX : X.1 ≤ 3584) (hA : w_k_In TR s A) (hp : p + 7 ≤ X.1) : w_OK (f251 X s ex (nI p)) (w_k_nx TR ex (nI p)) := by
  have hi : ∀ k, k < 7 → m_in (nI p + nI k) X.1 = true := fun k hk => by rw [w_k_add]; exact (w_k_inI (by omega)).2 (by omega)
  have h0 : m_in (nI p) X.1 = true := (w_k_inI (by omega)).2 (by omega)
  have h1 : m_in (nI p + 1) X.1 = true := hi 1 (by omega)
  have h2 : m_in (nI p + 2) X.1 = true := hi 2 (by omega)
  have h3 : m_in (nI p + 3) X.1 = true := hi 3 (by omega)
  have h4 : m_in (nI p + 4) X.1 = true := hi 4 (by omega)
  have h5 : m_in (nI p + 5) X.1 = true := hi 5 (by omega)
  have h6 : m_in (nI p + 6) X.1 = true := hi 6 (by omega)
  have w_e7 : (Int32.ofNat X.1) - 7 = nI (X.1 - 7) := by
    have : nI (X.1 - 7) + 7 = nI X.1 := by rw [show (nI (X.1 - 7) + 7 : Int32) = nI (X.1 - 7 + 7) from w_k_add _ 7]; congr 1; omega
    show nI X.1 - 7 = _
    rw [← this]; grind
  unfold f251
  rw [w_e7, if_neg (w_k_nlt (by omega) (by omega) (by omega)), if_pos h0]
  refine w_ok_if (fun _ => w_op_25 hT hA h1 h2 h3 h4 h5 h6) (fun _ => ?_)
  refine w_ok_if (fun _ => h82 X s A ex (nI p) hA h1) (fun _ => ?_)
  refine w_ok_if (fun _ => w_op_117 hT hA h1 h2 h3 h4 h5 h6) (fun _ => ?_)
  refine w_ok_if (fun _ => w_op_124 hT hA h1 h2 h3 h4 h5 h6) (fun _ => ?_)
  refine w_ok_if (fun _ => w_op_159 hT hA h1 h2 h3 h4 h5 h6) (fun _ => ?_)
  refine w_ok_if (fun _ => w_op_244 hT hA h1 h2 h3 h4 h5 h6) (fun _ => ?_)
  refine w_ok_if (fun _ => w_op_302 hT hA h1 h2 h3 h4 h5 h6) (fun _ => ?_)
  refine w_ok_if (fun _ => w_op_385 hT hA h1 h2 h3 h4 h5 h6) (fun _ => ?_)
  refine w_ok_if (fun _ => w_op_430 hT hA h1 h2 h3 h4 h5 h6) (fun _ => ?_)
  refine w_ok_if (fun _ => w_op_465 hT hA h1 h2 h3 h4 h5 h6) (fun _ => ?_)
  refine w_ok_if (fun _ => w_op_510 hT hA h1 h2 h3 h4 h5 h6) (fun _ => ?_)
  refine w_ok_if (fun _ => w_op_576 hT hA h1 h2 h3 h4 h5 h6) (fun _ => ?_)
  refine w_ok_if (fun _ => w_op_621 hT hA h1 h2 h3 h4 h5 h6) (fun _ => ?_)
  refine w_ok_if (fun _ => w_op_628 hT hA h1 h2 h3 h4 h5 h6) (fun _ => ?_)
  refine w_ok_if (fun _ => w_op_673 hT hA h1 h2 h3 h4 h5 h6) (fun _ => ?_)
  refine w_ok_if (fun _ => w_op_708 hT hA h1 h2 h3 h4 h5 h6) (fun _ => ?_)
  refine w_ok_if (fun _ => w_op_743 hT hA h1 h2 h3 h4 h5 h6) (fun _ => ?_)
  refine w_ok_if (fun _ => w_op_778 hT hA h1 h2 h3 h4 h5 h6) (fun _ => ?_)
  refine w_ok_if (fun _ => w_op_813 hT hA h1 h2 h3 h4 h5 h6) (fun _ => ?_)
  refine w_ok_if (fun _ => w_op_851 hT hA h1 h2 h3 h4 h5 h6) (fun _ => ?_)
  refine w_ok_if (fun _ => w_op_886 hT hA h1 h2 h3 h4 h5 h6) (fun _ => ?_)
  refine w_ok_if (fun _ => w_op_941 hT hA h1 h2 h3 h4 h5 h6) (fun _ => ?_)
  refine w_ok_if (fun _ => w_op_986 hT hA h1 h2 h3 h4 h5 h6) (fun _ => ?_)
  refine w_ok_if (fun _ => w_op_1021 hT hA h1 h2 h3 h4 h5 h6) (fun _ => ?_)
  refine w_ok_if (fun _ => w_op_1056 hT hA h1 h2 h3 h4 h5 h6) (fun _ => ?_)
  refine w_ok_if (fun _ => w_op_1091 hT hA h1 h2 h3 h4 h5 h6) (fun _ => ?_)
  refine w_ok_if (fun _ => w_op_1098 hT hA h1 h2 h3 h4 h5 h6) (fun _ => ?_)
  refine w_ok_if (fun _ => w_op_1151 hT hA h1 h2 h3 h4 h5 h6) (fun _ => ?_)
  refine w_ok_if (fun _ => w_op_1158 hT hA h1 h2 h3 h4 h5 h6) (fun _ => ?_)
  refine w_ok_if (fun _ => w_op_1203 hT hA h1 h2 h3 h4 h5 h6) (fun _ => ?_)
  refine w_ok_if (fun _ => w_op_1248 hT hA h1 h2 h3 h4 h5 h6) (fun _ => ?_)
  refine w_ok_if (fun _ => w_op_1293 hT hA h1 h2 h3 h4 h5 h6) (fun _ => ?_)
  refine w_ok_if (fun _ => w_op_1338 hT hA h1 h2 h3 h4 h5 h6) (fun _ => ?_)
  refine w_ok_if (fun _ => w_op_1345 hT hA h1 h2 h3 h4 h5 h6) (fun _ => ?_)
  refine w_ok_if (fun _ => w_op_1390 hT hA h1 h2 h3 h4 h5 h6) (fun _ => ?_)
  refine w_ok_if (fun _ => w_op_1435 hT hA h1 h2 h3 h4 h5 h6) (fun _ => ?_)
  refine w_ok_if (fun _ => w_op_1442 hT hA h1 h2 h3 h4 h5 h6) (fun _ => ?_)
  refine w_ok_if (fun _ => w_op_1449 hT hA h1 h2 h3 h4 h5 h6) (fun _ => ?_)
  exact w_ok_some ⟨A, s, ex, rfl, hA, by omega⟩
theorem w_k_loop {TR : w_k_TR} {X : m_X} (hT : w_k_HH TR) (h82 : w_k_H82 TR) (hX : X.1 ≤ 3584) : ∀ (d p : Nat) (s : g_S) (A : w_k_A) (ex : Nat), X.1 + 7 < p + 7 * d + 7 → p ≤ X.1 → w_k_In TR s A → ∃ z, f251L X (nI p) s ex = some (1, z) ∧ z.2 ≤ ex + d
  | 0, p, s, A, ex, hd, hp, hA => absurd hd (by omega)
  | d + 1, p, s, A, ex, hd, hp, hA => by
    rw [f251L_eq]
    by_cases hl : p + 7 ≤ X.1
    · obtain ⟨w, e, B, t, w_e2, h1, h2, h3⟩ := w_op_all (ex := ex) hT h82 hX hA hl
      rw [e, h1]
      obtain ⟨z, q1, q2⟩ := w_k_loop hT h82 hX d (p + 7) t B w_e2 (by omega) hl h2
      have w_e7 : nI p + 7 = nI (p + 7) := w_k_add p 7
      refine ⟨z, ?_, by omega⟩
      rw [← w_e7] at q1
      exact q1
    · refine ⟨(s, ex), ?_, by show ex ≤ ex + (d + 1); omega⟩
      unfold f251
      have hi : (Int32.ofNat X.1 - 7) < nI p := by
        rw [Int32.lt_iff_toInt_lt, w_k_nI (by omega)]
        have : (Int32.ofNat X.1 - 7).toInt = (X.1 : Int) - 7 := by
          rw [Int32.toInt_sub, show (Int32.ofNat X.1).toInt = (X.1 : Int) from w_k_nI (by omega)]
          show ((X.1 : Int) - 7).bmod _ = _
          rw [Int.bmod_def]; omega
        rw [this]; omega
      rw [if_pos hi]; rfl
