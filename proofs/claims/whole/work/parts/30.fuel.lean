/-! RUNS WITHOUT FUEL (written by a program: wip/whole/gen_30.py): more fuel does no harm; a rule for each kind of step. -/
theorem n_call_up {hs : List (Nat × (Nat × (Nat × Int32)))} {cb cb' : m_B} {pc y na rc i : Nat} {ls : m_L} {st : List Value} {M : m_M} {z : m_N} (hc : ∀ (y : Nat) (As : List Value) (M : m_M) (r : m_R), cb y As M = some r → cb' y As M = some r) (h : s_call hs cb pc y na rc i ls st M = some z) : s_call hs cb' pc y na rc i ls st M = some z := by
  unfold s_call at h ⊢
  split at h
  · rename_i h0
    rw [if_pos h0]
    cases he : cb y (st.take na).reverse M with
    | none => rw [he] at h; cases h
    | some r =>
      rw [he] at h
      rw [hc _ _ _ _ he]
      exact h
  · cases h
theorem n_sem_up {X : m_X} {tx bn : List (List Nat)} {hs : List (Nat × (Nat × (Nat × Int32)))} {d : Nat} {cb cb' : m_B} {pc i : Nat} {I : m_I} {ls : m_L} {st : List Value} {M : m_M} {z : m_N} (hc : ∀ (y : Nat) (As : List Value) (M : m_M) (r : m_R), cb y As M = some r → cb' y As M = some r) (h : m_sem X tx bn hs d cb pc i I ls st M = some z) : m_sem X tx bn hs d cb' pc i I ls st M = some z := by
  obtain ⟨o, a, b, n, l⟩ := I
  match o, h with
  | 0, h => exact h
  | 1, h => exact h
  | 2, h => exact h
  | 3, h => exact h
  | 4, h => exact h
  | 5, h => exact h
  | 6, h => exact h
  | 7, h => exact h
  | 8, h => exact h
  | 9, h => exact h
  | 10, h => exact h
  | 11, h => exact h
  | 12, h => exact h
  | 13, h => exact h
  | 14, h => exact h
  | 15, h => exact h
  | 16, h => exact h
  | 17, h => exact h
  | 18, h => exact h
  | 19, h => exact h
  | 20, h => exact h
  | 21, h => exact h
  | 22, h => exact h
  | 23, h => exact h
  | 24, h => exact h
  | 25, h => exact h
  | 26, h => exact h
  | 27, h => exact h
  | 28, h => exact h
  | 29, h => exact h
  | 30, h => exact n_call_up hc h
  | 31, h => exact h
  | 32, h => exact h
  | 33, h => exact h
  | 34, h => exact h
  | 35, h => exact h
  | 36, h => exact h
  | 37, h => exact h
  | 38, h => exact h
  | 39, h => exact h
  | 40, h => exact h
  | 41, h => exact h
  | k + 42, h => cases h
theorem n_up1 {P : m_P} : ∀ (n d m i : Nat) (ls : m_L) (st : List Value) (M : m_M) (r : m_R), m_run P n d m i ls st M = some r → m_run P (n + 1) d m i ls st M = some r
  | 0, _, _, _, _, _, _, _, h => by simp [m_run] at h
  | n + 1, d, m, i, ls, st, M, r, h => by
    have ih := n_up1 (P := P) n
    rw [m_run] at h ⊢
    cases hq : (P.2.2.2 m).1[i]? with
    | none => rw [hq] at h; cases h
    | some q =>
      rw [hq] at h
      simp only at h ⊢
      split at h
      · cases h
      · rename_i hz
        rw [n_sem_up (fun y As M r hr => ?_) hz]
        · exact ih _ _ _ _ _ _ _ h
        · match d, hr with
          | 0, hr => cases hr
          | d + 1, hr =>
            simp only at hr ⊢
            split at hr
            · rename_i hl
              rw [if_pos hl]
              exact ih _ _ _ _ _ _ _ hr
            · cases hr
      · rename_i hz
        rw [n_sem_up (fun y As M r hr => ?_) hz]
        · exact h
        · match d, hr with
          | 0, hr => cases hr
          | d + 1, hr =>
            simp only at hr ⊢
            split at hr
            · rename_i hl
              rw [if_pos hl]
              exact ih _ _ _ _ _ _ _ hr
            · cases hr
theorem n_up {P : m_P} {n d m i : Nat} {ls : m_L} {st : List Value} {M : m_M} {r : m_R} (h : m_run P n d m i ls st M = some r) : ∀ k : Nat, m_run P (n + k) d m i ls st M = some r
  | 0 => h
  | k + 1 => n_up1 _ _ _ _ _ _ _ _ (n_up h k)
/-- from place i of method m, with d frames left, a run ends in r -/
def n_R (X : m_X) (d m i : Nat) (ls : m_L) (st : List Value) (M : m_M) (r : m_R) : Prop := ∃ n : Nat, m_run (m_prog X) n d m i ls st M = some r
/-- a call of method y ends in r -/
def n_C (X : m_X) (d y : Nat) (As : List Value) (M : m_M) (r : m_R) : Prop := As.length ≤ (m_md y).2.2 ∧ n_R X d y 0 (m_lin (m_md y).2.2 As) [] M r
section JN
variable {X : m_X} {d m i : Nat} {ls ls1 : m_L} {st st1 : List Value} {M M1 : m_M} {r : m_R} {q : Nat × m_I} {i1 : Nat}
noncomputable def n_cb (X : m_X) (n d : Nat) : m_B := fun y As M => match d with
  | 0 => none
  | d + 1 => if As.length ≤ (m_md y).2.2 then m_run (m_prog X) n d y 0 (m_lin (m_md y).2.2 As) [] M else none
theorem n_inl {n : Nat} (hq : (m_md m).1[i]? = some q) (h : m_sem X m_text m_born9 (m_md m).2.1 d (n_cb X n d) q.1 i q.2 ls st M = some (.inl (i1, (ls1, (st1, M1))))) : m_run (m_prog X) (n + 1) d m i ls st M = m_run (m_prog X) n d m i1 ls1 st1 M1 := by
  rw [m_run]
  have hq' : ((m_prog X).2.2.2 m).1[i]? = some q := hq
  rw [hq']
  show (match m_sem X m_text m_born9 (m_md m).2.1 d (n_cb X n d) q.1 i q.2 ls st M with
    | none => none
    | some (.inl (i1, (ls1, (st1, M1)))) => m_run (m_prog X) n d m i1 ls1 st1 M1
    | some (.inr r) => some r) = _
  rw [h]
theorem n_inr {n : Nat} (hq : (m_md m).1[i]? = some q) (h : m_sem X m_text m_born9 (m_md m).2.1 d (n_cb X n d) q.1 i q.2 ls st M = some (.inr r)) : m_run (m_prog X) (n + 1) d m i ls st M = some r := by
  rw [m_run]
  have hq' : ((m_prog X).2.2.2 m).1[i]? = some q := hq
  rw [hq']
  show (match m_sem X m_text m_born9 (m_md m).2.1 d (n_cb X n d) q.1 i q.2 ls st M with
    | none => none
    | some (.inl (i1, (ls1, (st1, M1)))) => m_run (m_prog X) n d m i1 ls1 st1 M1
    | some (.inr r) => some r) = _
  rw [h]
theorem n_go (hq : (m_md m).1[i]? = some q) (hs : ∀ cb : m_B, m_sem X m_text m_born9 (m_md m).2.1 d cb q.1 i q.2 ls st M = some (.inl (i1, (ls1, (st1, M1))))) (k : n_R X d m i1 ls1 st1 M1 r) : n_R X d m i ls st M r := by
  obtain ⟨n, hn⟩ := k
  exact ⟨n + 1, (n_inl hq (hs _)).trans hn⟩
theorem n_end (hq : (m_md m).1[i]? = some q) (hs : ∀ cb : m_B, m_sem X m_text m_born9 (m_md m).2.1 d cb q.1 i q.2 ls st M = some (.inr r)) : n_R X d m i ls st M r := ⟨1, n_inr hq (hs _)⟩
/-- a call: the callee's run, then on -/
theorem n_call0 {pc y na : Nat} {n : Int32} {l : List (Int32 × Nat)} {As : List Value} {r1 : m_R} (hq : (m_md m).1[i]? = some (pc, (30, (y, (na, (n, l)))))) (hC : n_C X d y As M r1)
    (k : ∀ cb : m_B, cb y As M = some r1 → ∃ z : m_N, s_call (m_md m).2.1 cb pc y na n.toNatClampNeg i ls st M = some z ∧ ((∃ (i1 : Nat) (ls1 : m_L) (st1 : List Value) (M1 : m_M), z = .inl (i1, (ls1, (st1, M1))) ∧ n_R X (d + 1) m i1 ls1 st1 M1 r) ∨ z = .inr r)) : n_R X (d + 1) m i ls st M r := by
  obtain ⟨hl, n1, hn1⟩ := hC
  have hcb : n_cb X n1 (d + 1) y As M = some r1 := by
    show (if As.length ≤ (m_md y).2.2 then m_run (m_prog X) n1 d y 0 (m_lin (m_md y).2.2 As) [] M else none) = some r1
    rw [if_pos hl]
    exact hn1
  obtain ⟨z, hz, hzr⟩ := k (n_cb X n1 (d + 1)) hcb
  have up : ∀ n2 : Nat, m_sem X m_text m_born9 (m_md m).2.1 (d + 1) (n_cb X (n1 + n2) (d + 1)) pc i (30, (y, (na, (n, l)))) ls st M = some z := fun n2 => by
    show s_call (m_md m).2.1 (n_cb X (n1 + n2) (d + 1)) pc y na n.toNatClampNeg i ls st M = some z
    refine n_call_up (fun y As M r hr => ?_) hz
    have hr : (if As.length ≤ (m_md y).2.2 then m_run (m_prog X) n1 d y 0 (m_lin (m_md y).2.2 As) [] M else none) = some r := hr
    show (if As.length ≤ (m_md y).2.2 then m_run (m_prog X) (n1 + n2) d y 0 (m_lin (m_md y).2.2 As) [] M else none) = some r
    split at hr
    · rename_i hl2
      rw [if_pos hl2]
      exact n_up hr n2
    · cases hr
  rcases hzr with ⟨i1, ls1, st1, M1, rfl, n2, hn2⟩ | rfl
  · refine ⟨(n1 + n2) + 1, (n_inl hq (up n2)).trans ?_⟩
    have h9 := n_up hn2 n1
    rw [Nat.add_comm] at h9
    exact h9
  · exact ⟨n1 + 1, n_inr hq (up 0)⟩
theorem n_take {As rest : List Value} {na : Nat} (h : As.length = na) : ((As.reverse ++ rest).take na).reverse = As ∧ (As.reverse ++ rest).drop na = rest ∧ (As.reverse ++ rest).take na = As.reverse := by
  subst h
  have h1 : As.reverse.length = As.length := List.length_reverse
  refine ⟨?_, ?_, ?_⟩
  · rw [← h1, List.take_left, List.reverse_reverse]
  · rw [← h1, List.drop_left]
  · rw [← h1, List.take_left]
theorem n_scall {hs : List (Nat × (Nat × (Nat × Int32)))} {pc y na rc : Nat} {As rest : List Value} {cb : m_B} {r1 : m_R} (hst : st = As.reverse ++ rest) (hna : As.length = na) (h1 : m_cats rest ≤ 8) (h2 : As.all m_cat1 = true) (h3 : m_recv rc As M = true) (hcb : cb y As M = some r1) :
    s_call hs cb pc y na rc i ls st M = (match (generalizing := false) r1 with
      | (.inl none, M1) => m_go (i + 1) ls rest M1
      | (.inl (some v), M1) => m_go (i + 1) ls (v :: rest) M1
      | (.inr e, M1) => m_thr pc e M1 hs) := by
  subst hst
  obtain ⟨t1, t2, t3⟩ := n_take (rest := rest) hna
  unfold s_call
  rw [t1, t2, t3]
  rw [if_pos ⟨by rw [List.length_append, List.length_reverse]; omega, h1, by rw [List.all_reverse]; exact h2, h3⟩, hcb]
  obtain ⟨v, M1⟩ := r1
  rcases v with v | v
  · cases v <;> rfl
  · rfl
/-- a call that returns a value -/
theorem n_callv {pc y na : Nat} {n : Int32} {l : List (Int32 × Nat)} {As rest : List Value} {v : Value} (hq : (m_md m).1[i]? = some (pc, (30, (y, (na, (n, l)))))) (hst : st = As.reverse ++ rest) (hna : As.length = na) (h1 : m_cats rest ≤ 8) (h2 : As.all m_cat1 = true) (h3 : m_recv n.toNatClampNeg As M = true) (hC : n_C X d y As M (.inl (some v), M1)) (k : n_R X (d + 1) m (i + 1) ls (v :: rest) M1 r) : n_R X (d + 1) m i ls st M r :=
  n_call0 hq hC fun cb hcb => ⟨_, n_scall hst hna h1 h2 h3 hcb, Or.inl ⟨_, _, _, _, rfl, k⟩⟩
/-- .. or nothing -/
theorem n_call {pc y na : Nat} {n : Int32} {l : List (Int32 × Nat)} {As rest : List Value} (hq : (m_md m).1[i]? = some (pc, (30, (y, (na, (n, l)))))) (hst : st = As.reverse ++ rest) (hna : As.length = na) (h1 : m_cats rest ≤ 8) (h2 : As.all m_cat1 = true) (h3 : m_recv n.toNatClampNeg As M = true) (hC : n_C X d y As M (.inl none, M1)) (k : n_R X (d + 1) m (i + 1) ls rest M1 r) : n_R X (d + 1) m i ls st M r :=
  n_call0 hq hC fun cb hcb => ⟨_, n_scall hst hna h1 h2 h3 hcb, Or.inl ⟨_, _, _, _, rfl, k⟩⟩
/-- .. or throws -/
theorem n_callx {pc y na e : Nat} {n : Int32} {l : List (Int32 × Nat)} {As rest : List Value} {z : Option Value ⊕ Nat} (hq : (m_md m).1[i]? = some (pc, (30, (y, (na, (n, l)))))) (hst : st = As.reverse ++ rest) (hna : As.length = na) (h1 : m_cats rest ≤ 8) (h2 : As.all m_cat1 = true) (h3 : m_recv n.toNatClampNeg As M = true) (hC : n_C X d y As M (.inr e, M1)) (ht : m_thr pc e M1 (m_md m).2.1 = some (.inr r)) : n_R X (d + 1) m i ls st M r :=
  n_call0 hq hC fun cb hcb => ⟨.inr r, (n_scall hst hna h1 h2 h3 hcb).trans ht, Or.inr rfl⟩
end JN
