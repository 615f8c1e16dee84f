/-! SMALL METHODS: what a call of them gives. -/
theorem n_q {m i : Nat} {q : Nat × m_I} {C : m_Md} (hm : m_md m = C) (h : C.1[i]? = some q) : (m_md m).1[i]? = some q := by
  rw [hm]
  exact h
theorem md_70 : m_md 70 = m_X5_isDigit := rfl
theorem md_136 : m_md 136 = m_X8_less := rfl
section JP
variable {X : m_X} {d : Nat} {M : m_M}
theorem c_less {x y : Int32} : n_C X d 136 [.int x, .int y] M (.inl (some (.int (if y ≤ x then y else x))), M) := by
  refine ⟨Nat.le_of_ble_eq_true rfl, ?_⟩
  rw [md_136]
  show n_R X d 136 0 [some (.int x), some (.int y)] [] M _
  refine n_go (n_q md_136 rfl) (fun _ => rfl) ?_
  refine n_go (n_q md_136 rfl) (fun _ => rfl) ?_
  refine n_cmp (n_q md_136 rfl) ?_
  by_cases h : y ≤ x
  · rw [if_pos (show m_cond 3 x y = true from decide_eq_true h), if_pos h]
    refine n_go (n_q md_136 rfl) (fun _ => rfl) ?_
    exact n_iret (n_q md_136 rfl) (Or.inl rfl)
  · rw [if_neg (show ¬ m_cond 3 x y = true from fun e => h (of_decide_eq_true e)), if_neg h]
    refine n_go (n_q md_136 rfl) (fun _ => rfl) ?_
    refine n_go (n_q md_136 rfl) (fun _ => rfl) ?_
    exact n_iret (n_q md_136 rfl) (Or.inl rfl)
theorem c_isDigit {x : Int32} : n_C X d 70 [.int x] M (.inl (some (.int (if 48 ≤ x ∧ x ≤ 57 then 1 else 0))), M) := by
  refine ⟨Nat.le_of_ble_eq_true rfl, ?_⟩
  rw [md_70]
  show n_R X d 70 0 [some (.int x)] [] M _
  refine n_go (n_q md_70 rfl) (fun _ => rfl) ?_
  refine n_go (n_q md_70 rfl) (fun _ => rfl) ?_
  refine n_cmp (n_q md_70 rfl) ?_
  by_cases h : x < 48
  · rw [if_pos (show m_cond 2 x 48 = true from decide_eq_true h), if_neg (fun e => absurd h (Int32.not_lt.mpr e.1))]
    refine n_go (n_q md_70 rfl) (fun _ => rfl) ?_
    exact n_iret (n_q md_70 rfl) (Or.inr rfl)
  · rw [if_neg (show ¬ m_cond 2 x 48 = true from fun e => h (of_decide_eq_true e))]
    refine n_go (n_q md_70 rfl) (fun _ => rfl) ?_
    refine n_go (n_q md_70 rfl) (fun _ => rfl) ?_
    refine n_cmp (n_q md_70 rfl) ?_
    by_cases g : 57 < x
    · rw [if_pos (show m_cond 4 x 57 = true from decide_eq_true g), if_neg (fun e => absurd g (Int32.not_lt.mpr e.2))]
      refine n_go (n_q md_70 rfl) (fun _ => rfl) ?_
      exact n_iret (n_q md_70 rfl) (Or.inr rfl)
    · rw [if_neg (show ¬ m_cond 4 x 57 = true from fun e => g (of_decide_eq_true e)), if_pos ⟨Int32.not_lt.mp h, Int32.not_lt.mp g⟩]
      refine n_go (n_q md_70 rfl) (fun _ => rfl) ?_
      refine n_go (n_q md_70 rfl) (fun _ => rfl) ?_
      exact n_iret (n_q md_70 rfl) (Or.inr rfl)
end JP
