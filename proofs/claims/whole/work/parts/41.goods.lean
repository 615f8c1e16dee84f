/-! GOODS.add (id 18): the pattern of a contract that writes. -/
theorem n_pne {M : m_M} {a x : Nat} {c : m_C} (h : x ≠ a) : (m_put M a c).1 x = M.1 x := if_neg h
theorem n_peq {M : m_M} {a : Nat} {c : m_C} : (m_put M a c).1 a = c := if_pos rfl
theorem md_18 : m_md 18 = m_X2_add := rfl
section JU
variable {X : m_X} {d : Nat} {M : m_M}
theorem c_add {x a b : Nat} {k p q : Int32} {f g : Nat → Int32} (h0 : M.1 x = .inr (2, [.int k, .ref a, .ref b])) (h1 : M.1 a = .inl (0, (20, .inl f))) (h2 : M.1 b = .inl (0, (20, .inl g))) (hx : x < M.2.1) (ha : a < M.2.1) (hb : b < M.2.1) (hab : a ≠ b) (ha' : a ≠ 1000000) (hb' : b ≠ 1000000) (hk : k < 20) (hj : m_in k 20 = true) :
    n_C X d 18 [.ref x, .int p, .int q] M (.inl (some (.int 1)), m_put (m_put (m_put M a (.inl (0, (20, .inl (upd f k.toNatClampNeg p))))) b (.inl (0, (20, .inl (upd g k.toNatClampNeg q))))) x (.inr (2, [.int (k + 1), .ref a, .ref b]))) := by
  have xa : x ≠ a := fun e => by rw [e, h1] at h0; cases h0
  have xb : x ≠ b := fun e => by rw [e, h2] at h0; cases h0
  refine ⟨Nat.le_of_ble_eq_true rfl, ?_⟩
  rw [md_18]
  show n_R X d 18 0 [some (.ref x), some (.int p), some (.int q)] [] M _
  refine n_go (n_q md_18 rfl) (fun _ => rfl) ?_
  refine n_getf (n_q md_18 rfl) h0 hx rfl ?_
  refine n_go (n_q md_18 rfl) (fun _ => rfl) ?_
  refine n_cmpT (n_q md_18 rfl) (decide_eq_true hk) ?_
  refine n_go (n_q md_18 rfl) (fun _ => rfl) ?_
  refine n_getf (n_q md_18 rfl) h0 hx rfl ?_
  refine n_go (n_q md_18 rfl) (fun _ => rfl) ?_
  refine n_getf (n_q md_18 rfl) h0 hx rfl ?_
  refine n_go (n_q md_18 rfl) (fun _ => rfl) ?_
  refine n_iast (n_q md_18 rfl) h1 ha hj ?_
  have g0 : (m_put M a (.inl (0, (20, .inl (upd f k.toNatClampNeg p))))).1 x = .inr (2, [.int k, .ref a, .ref b]) := (n_pne xa).trans h0
  refine n_go (n_q md_18 rfl) (fun _ => rfl) ?_
  refine n_getf (n_q md_18 rfl) g0 hx rfl ?_
  refine n_go (n_q md_18 rfl) (fun _ => rfl) ?_
  refine n_getf (n_q md_18 rfl) g0 hx rfl ?_
  refine n_go (n_q md_18 rfl) (fun _ => rfl) ?_
  refine n_iast (n_q md_18 rfl) ((n_pne hab.symm).trans h2) hb hj ?_
  refine n_go (n_q md_18 rfl) (fun _ => rfl) ?_
  refine n_go (n_q md_18 rfl) (fun _ => rfl) ?_
  refine n_getf (n_q md_18 rfl) ((n_pne xb).trans g0) hx rfl ?_
  refine n_go (n_q md_18 rfl) (fun _ => rfl) ?_
  refine n_go (n_q md_18 rfl) (fun _ => rfl) ?_
  refine n_putf (n_q md_18 rfl) ((n_pne xb).trans g0) hx (by show (0 : Nat) < 3; decide) rfl ?_
  refine n_go (n_q md_18 rfl) (fun _ => rfl) ?_
  exact n_iret (n_q md_18 rfl) (Or.inr rfl)
end JU
