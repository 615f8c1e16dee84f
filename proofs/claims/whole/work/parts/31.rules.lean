/-! RULES for the steps that look at the memory, or choose. -/
section JO
variable {X : m_X} {d m i pc : Nat} {ls : m_L} {st : List Value} {M : m_M} {r : m_R} {n : Int32} {l : List (Int32 × Nat)} {a b : Nat}
theorem n_getf {x : Nat} {fs : List Value} {v : Value} (hq : (m_md m).1[i]? = some (pc, (6, (a, (b, (n, l)))))) (hM : M.1 x = .inr (a, fs)) (hr : x < M.2.1) (hv : fs[b]? = some v) (k : n_R X d m (i + 1) ls (v :: st) M r) : n_R X d m i ls (.ref x :: st) M r :=
  n_go hq (fun cb => by
    show s_getf a b i ls (.ref x :: st) M = _
    simp only [s_getf, hM, hr, true_and, if_true, hv, m_go]) k
theorem n_putf {x : Nat} {fs : List Value} {v : Value} (hq : (m_md m).1[i]? = some (pc, (7, (a, (b, (n, l)))))) (hM : M.1 x = .inr (a, fs)) (hr : x < M.2.1) (hl : b < fs.length) (hf : m_fit n.toNatClampNeg v = true) (k : n_R X d m (i + 1) ls st (m_put M x (.inr (a, fs.set b v))) r) : n_R X d m i ls (v :: .ref x :: st) M r :=
  n_go hq (fun cb => by
    show s_putf a b n.toNatClampNeg i ls (v :: .ref x :: st) M = _
    simp only [s_putf, hM, hr, hl, hf, true_and, and_true, if_true, m_go]) k
theorem n_scr {j : Int32} (hq : (m_md m).1[i]? = some (pc, (8, (a, (b, (n, l)))))) (hj : m_in j X.1 = true) (k : n_R X d m (i + 1) ls (.int (X.2 j.toNatClampNeg) :: st) M r) : n_R X d m i ls (.int j :: .ref 1000000 :: st) M r :=
  n_go hq (fun cb => by
    show s_iald X i ls (.int j :: .ref 1000000 :: st) M = _
    simp only [s_iald, if_true, hj, m_go]) k
theorem n_iald {x c : Nat} {j : Int32} {f : Nat → Int32} (hq : (m_md m).1[i]? = some (pc, (8, (a, (b, (n, l)))))) (hx : x ≠ 1000000) (hM : M.1 x = .inl (0, (c, .inl f))) (hr : x < M.2.1) (hj : m_in j c = true) (k : n_R X d m (i + 1) ls (.int (f j.toNatClampNeg) :: st) M r) : n_R X d m i ls (.int j :: .ref x :: st) M r :=
  n_go hq (fun cb => by
    show s_iald X i ls (.int j :: .ref x :: st) M = _
    simp only [s_iald, if_neg hx, hM, hr, hj, true_and, if_true, m_go]) k
theorem n_bald {x c : Nat} {j : Int32} {f : Nat → Int32} (hq : (m_md m).1[i]? = some (pc, (10, (a, (b, (n, l)))))) (hM : M.1 x = .inl (1, (c, .inl f))) (hr : x < M.2.1) (hj : m_in j c = true) (k : n_R X d m (i + 1) ls (.int (f j.toNatClampNeg) :: st) M r) : n_R X d m i ls (.int j :: .ref x :: st) M r :=
  n_go hq (fun cb => by
    show s_bald i ls (.int j :: .ref x :: st) M = _
    simp only [s_bald, hM, hr, hj, true_and, if_true, m_go]) k
theorem n_lald {x c : Nat} {j : Int32} {f : Nat → Int64} (hq : (m_md m).1[i]? = some (pc, (14, (a, (b, (n, l)))))) (hM : M.1 x = .inl (2, (c, .inr (.inl f)))) (hr : x < M.2.1) (hj : m_in j c = true) (k : n_R X d m (i + 1) ls (.long (f j.toNatClampNeg) :: st) M r) : n_R X d m i ls (.int j :: .ref x :: st) M r :=
  n_go hq (fun cb => by
    show s_lald i ls (.int j :: .ref x :: st) M = _
    simp only [s_lald, hM, hr, hj, true_and, if_true, m_go]) k
theorem n_aald {x c t y : Nat} {j : Int32} {f : Nat → Option Nat} (hq : (m_md m).1[i]? = some (pc, (12, (a, (b, (n, l)))))) (hM : M.1 x = .inl (t, (c, .inr (.inr (.inr (.inr f)))))) (hr : x < M.2.1) (h3 : 3 ≤ t) (h9 : t < 9) (hj : m_in j c = true) (hy : f j.toNatClampNeg = some y) (k : n_R X d m (i + 1) ls (.ref y :: st) M r) : n_R X d m i ls (.int j :: .ref x :: st) M r :=
  n_go hq (fun cb => by
    show s_aald i ls (.int j :: .ref x :: st) M = _
    simp only [s_aald, hM, hr, h3, h9, hj, hy, true_and, if_true, m_go]) k
theorem n_iast {x c : Nat} {j v : Int32} {f : Nat → Int32} (hq : (m_md m).1[i]? = some (pc, (9, (a, (b, (n, l)))))) (hM : M.1 x = .inl (0, (c, .inl f))) (hr : x < M.2.1) (hj : m_in j c = true) (k : n_R X d m (i + 1) ls st (m_put M x (.inl (0, (c, .inl (upd f j.toNatClampNeg v))))) r) : n_R X d m i ls (.int v :: .int j :: .ref x :: st) M r :=
  n_go hq (fun cb => by
    show s_iast i ls (.int v :: .int j :: .ref x :: st) M = _
    simp only [s_iast, hM, hr, hj, true_and, if_true, m_go]) k
theorem n_bast {x c : Nat} {j v : Int32} {f : Nat → Int32} (hq : (m_md m).1[i]? = some (pc, (11, (a, (b, (n, l)))))) (hM : M.1 x = .inl (1, (c, .inl f))) (hr : x < M.2.1) (hj : m_in j c = true) (hb : m_isb v = true) (k : n_R X d m (i + 1) ls st (m_put M x (.inl (1, (c, .inl (upd f j.toNatClampNeg v))))) r) : n_R X d m i ls (.int v :: .int j :: .ref x :: st) M r :=
  n_go hq (fun cb => by
    show s_bast i ls (.int v :: .int j :: .ref x :: st) M = _
    simp only [s_bast, hM, hr, hj, hb, true_and, and_true, if_true, m_go]) k
theorem n_last {x c : Nat} {j : Int32} {v : Int64} {f : Nat → Int64} (hq : (m_md m).1[i]? = some (pc, (15, (a, (b, (n, l)))))) (hM : M.1 x = .inl (2, (c, .inr (.inl f)))) (hr : x < M.2.1) (hj : m_in j c = true) (k : n_R X d m (i + 1) ls st (m_put M x (.inl (2, (c, .inr (.inl (vp_updL f j.toNatClampNeg v)))))) r) : n_R X d m i ls (.long v :: .int j :: .ref x :: st) M r :=
  n_go hq (fun cb => by
    show s_last i ls (.long v :: .int j :: .ref x :: st) M = _
    simp only [s_last, hM, hr, hj, true_and, if_true, m_go]) k
theorem n_bin {x y z : Int32} (hq : (m_md m).1[i]? = some (pc, (17, (a, (b, (n, l)))))) (hz : m_bin a x y = some z) (k : n_R X d m (i + 1) ls (.int z :: st) M r) : n_R X d m i ls (.int y :: .int x :: st) M r :=
  n_go hq (fun cb => by
    show s_bin a i ls (.int y :: .int x :: st) M = _
    simp only [s_bin, hz, m_go]) k
theorem n_if {x : Int32} (hq : (m_md m).1[i]? = some (pc, (18, (a, (b, (n, l)))))) (k : n_R X d m (if m_cond a x 0 = true then b else i + 1) ls st M r) : n_R X d m i ls (.int x :: st) M r := by
  by_cases h : m_cond a x 0 = true
  · rw [if_pos h] at k
    exact n_go hq (fun cb => by
      show s_if a b i ls (.int x :: st) M = _
      simp only [s_if, h, if_true, m_go]) k
  · rw [if_neg h] at k
    exact n_go hq (fun cb => by
      show s_if a b i ls (.int x :: st) M = _
      simp only [s_if, if_neg h, m_go]) k
theorem n_cmp {x y : Int32} (hq : (m_md m).1[i]? = some (pc, (19, (a, (b, (n, l)))))) (k : n_R X d m (if m_cond a x y = true then b else i + 1) ls st M r) : n_R X d m i ls (.int y :: .int x :: st) M r := by
  by_cases h : m_cond a x y = true
  · rw [if_pos h] at k
    exact n_go hq (fun cb => by
      show s_cmp a b i ls (.int y :: .int x :: st) M = _
      simp only [s_cmp, h, if_true, m_go]) k
  · rw [if_neg h] at k
    exact n_go hq (fun cb => by
      show s_cmp a b i ls (.int y :: .int x :: st) M = _
      simp only [s_cmp, if_neg h, m_go]) k
theorem n_iret {x : Int32} (hq : (m_md m).1[i]? = some (pc, (27, (a, (b, (n, l)))))) (h : a = 0 ∨ m_isb x = true) : n_R X d m i ls [.int x] M (.inl (some (.int x)), M) :=
  n_end hq fun cb => by
    show s_iret a [.int x] M = _
    simp only [s_iret, if_pos h, m_end]
end JO
