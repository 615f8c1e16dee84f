/-! MORE RULES: lengths, stores of references, what makes cells, what wants twelve frames. -/
section JQ
variable {X : m_X} {d m i pc : Nat} {ls : m_L} {st : List Value} {M : m_M} {r : m_R} {n : Int32} {l : List (Int32 × Nat)} {a b : Nat}
theorem n_scl (hq : (m_md m).1[i]? = some (pc, (16, (a, (b, (n, l)))))) (k : n_R X d m (i + 1) ls (.int (Int32.ofNat X.1) :: st) M r) : n_R X d m i ls (.ref 1000000 :: st) M r :=
  n_go hq (fun cb => by
    show s_alen X i ls (.ref 1000000 :: st) M = _
    simp only [s_alen, if_true, m_go]) k
theorem n_alen {x t : Nat} {c : vp_A} (hq : (m_md m).1[i]? = some (pc, (16, (a, (b, (n, l)))))) (hx : x ≠ 1000000) (hM : M.1 x = .inl (t, c)) (hr : x < M.2.1) (h9 : t < 9) (k : n_R X d m (i + 1) ls (.int (Int32.ofNat c.1) :: st) M r) : n_R X d m i ls (.ref x :: st) M r :=
  n_go hq (fun cb => by
    show s_alen X i ls (.ref x :: st) M = _
    simp only [s_alen, if_neg hx, hM, hr, h9, true_and, if_true, m_go]) k
theorem n_aast {x y t c : Nat} {j : Int32} {fs : List Value} {f : Nat → Option Nat} (hq : (m_md m).1[i]? = some (pc, (13, (a, (b, (n, l)))))) (hM : M.1 x = .inl (t, (c, .inr (.inr (.inr (.inr f)))))) (hV : M.1 y = .inr (m_el t, fs)) (hr : x < M.2.1) (hy : y < M.2.1) (h5 : 5 ≤ t) (h9 : t < 9) (hj : m_in j c = true)
    (k : n_R X d m (i + 1) ls st (m_put M x (.inl (t, (c, .inr (.inr (.inr (.inr (va_up f j.toNatClampNeg (some y)))))))) ) r) : n_R X d m i ls (.ref y :: .int j :: .ref x :: st) M r :=
  n_go hq (fun cb => by
    show s_aast i ls (.ref y :: .int j :: .ref x :: st) M = _
    simp only [s_aast, hM, hV, hr, hy, h5, h9, hj, true_and, and_true, if_true, m_go]) k
theorem n_new (hq : (m_md m).1[i]? = some (pc, (37, (a, (b, (n, l)))))) (he : M.2.2.1 = M.2.1) (h9 : M.2.1 < 900000) (k : n_R X d m (i + 1) ls (.ref M.2.1 :: st) (m_add M (.inr (a, m_born (m_born9.getD a []))) (m_born (m_born9.getD a [])).length) r) : n_R X d m i ls st M r :=
  n_go hq (fun cb => by
    show s_new a (m_born (m_born9.getD a [])) i ls st M = _
    unfold s_new m_go
    rw [if_pos ⟨he, h9⟩]) k
theorem n_newa {z : Int32} (hq : (m_md m).1[i]? = some (pc, (38, (a, (b, (n, l)))))) (he : M.2.2.1 = M.2.1) (h9 : M.2.1 < 900000) (ha : a < 9) (h0 : ¬ z < 0) (h1 : z.toNatClampNeg ≤ 100000) (k : n_R X d m (i + 1) ls (.ref M.2.1 :: st) (m_add M (m_zero a z.toNatClampNeg) z.toNatClampNeg) r) : n_R X d m i ls (.int z :: st) M r :=
  n_go hq (fun cb => by
    show s_newa a i ls (.int z :: st) M = _
    simp only [s_newa, m_go]
    rw [if_pos ⟨he, h9, ha, h0, h1⟩]) k
theorem n_min {x y : Int32} (hq : (m_md m).1[i]? = some (pc, (31, (a, (b, (n, l)))))) (hd : 12 ≤ d) (hs : m_cats st ≤ 8) (k : n_R X d m (i + 1) ls (.int (if y < x then y else x) :: st) M r) : n_R X d m i ls (.int y :: .int x :: st) M r :=
  n_go hq (fun cb => by
    show (if 12 ≤ d then s_min i ls (.int y :: .int x :: st) M else none) = _
    rw [if_pos hd]
    simp only [s_min, if_pos hs, m_go]) k
theorem n_max {x y : Int32} (hq : (m_md m).1[i]? = some (pc, (32, (a, (b, (n, l)))))) (hd : 12 ≤ d) (hs : m_cats st ≤ 8) (k : n_R X d m (i + 1) ls (.int (if x < y then y else x) :: st) M r) : n_R X d m i ls (.int y :: .int x :: st) M r :=
  n_go hq (fun cb => by
    show (if 12 ≤ d then s_max i ls (.int y :: .int x :: st) M else none) = _
    rw [if_pos hd]
    simp only [s_max, if_pos hs, m_go]) k
theorem n_pop {x : Nat} (hq : (m_md m).1[i]? = some (pc, (40, (a, (b, (n, l)))))) (hd : 12 ≤ d) (hs : m_cats st ≤ 8) (k : n_R X d m (i + 1) ls st M r) : n_R X d m i ls (.ref x :: st) M r :=
  n_go hq (fun cb => by
    show (if 12 ≤ d then s_pop i ls (.ref x :: st) M else none) = _
    rw [if_pos hd]
    simp only [s_pop, if_pos hs, m_go]) k
theorem n_slen {x : Nat} (hq : (m_md m).1[i]? = some (pc, (34, (a, (b, (n, l)))))) (hd : 12 ≤ d) (h1 : m_T0 ≤ x) (h2 : x < m_T0 + m_text.length) (hs : m_cats st ≤ 8) (k : n_R X d m (i + 1) ls (.int (nI (m_text.getD (x - m_T0) []).length) :: st) M r) : n_R X d m i ls (.ref x :: st) M r :=
  n_go hq (fun cb => by
    show (if 12 ≤ d then s_slen m_text i ls (.ref x :: st) M else none) = _
    rw [if_pos hd]
    unfold s_slen m_go
    simp only
    rw [if_pos ⟨h1, h2, hs⟩]) k
theorem n_char {x : Nat} {j : Int32} (hq : (m_md m).1[i]? = some (pc, (35, (a, (b, (n, l)))))) (hd : 12 ≤ d) (h1 : m_T0 ≤ x) (h2 : x < m_T0 + m_text.length) (hs : m_cats st ≤ 8) (hj : m_in j (m_text.getD (x - m_T0) []).length = true) (k : n_R X d m (i + 1) ls (.int (nI ((m_text.getD (x - m_T0) []).getD j.toNatClampNeg 0)) :: st) M r) : n_R X d m i ls (.int j :: .ref x :: st) M r :=
  n_go hq (fun cb => by
    show (if 12 ≤ d then s_char m_text i ls (.int j :: .ref x :: st) M else none) = _
    rw [if_pos hd]
    unfold s_char m_go
    simp only
    rw [if_pos ⟨h1, h2, hs, hj⟩]) k
theorem n_copy {x y c1 c2 : Nat} {z dp sp : Int32} {f g : Nat → Int32} (hq : (m_md m).1[i]? = some (pc, (33, (a, (b, (n, l)))))) (hd : 12 ≤ d) (hM : M.1 x = .inl (0, (c1, .inl f))) (hN : M.1 y = .inl (0, (c2, .inl g))) (hx : x < M.2.1) (hy : y < M.2.1) (hs : m_cats st ≤ 8) (h1 : ¬ sp < 0) (h2 : ¬ dp < 0) (h3 : ¬ z < 0) (h4 : sp.toNatClampNeg + z.toNatClampNeg ≤ c1) (h5 : dp.toNatClampNeg + z.toNatClampNeg ≤ c2)
    (k : n_R X d m (i + 1) ls st (m_put M y (.inl (0, (c2, .inl (va_cpy f g sp.toNatClampNeg dp.toNatClampNeg z.toNatClampNeg))))) r) : n_R X d m i ls (.int z :: .int dp :: .ref y :: .int sp :: .ref x :: st) M r :=
  n_go hq (fun cb => by
    show (if 12 ≤ d then s_copy i ls (.int z :: .int dp :: .ref y :: .int sp :: .ref x :: st) M else none) = _
    rw [if_pos hd]
    simp only [s_copy, hM, hN, m_go]
    rw [if_pos ⟨hx, hy, hs, h1, h2, h3, h4, h5⟩]) k
theorem n_throw (hq : (m_md m).1[i]? = some (pc, (36, (a, (b, (n, l)))))) (hd : 12 ≤ d) (hs : m_cats st ≤ 8) : n_R X d m i ls st M (.inr a, (M.1, (M.2.1, (M.2.2.1 + 1, M.2.2.2 + 6)))) :=
  n_end hq fun cb => by
    show (if 12 ≤ d then s_throw a st M else none) = _
    rw [if_pos hd]
    unfold s_throw
    rw [if_pos hs]
theorem n_sw {x : Int32} (hq : (m_md m).1[i]? = some (pc, (21, (a, (b, (n, l)))))) (k : n_R X d m (m_sw b x l) ls st M r) : n_R X d m i ls (.int x :: st) M r := n_go hq (fun _ => rfl) k
theorem n_ifT {x : Int32} (hq : (m_md m).1[i]? = some (pc, (18, (a, (b, (n, l)))))) (h : m_cond a x 0 = true) (k : n_R X d m b ls st M r) : n_R X d m i ls (.int x :: st) M r := n_if hq (by rw [if_pos h]; exact k)
theorem n_ifF {x : Int32} (hq : (m_md m).1[i]? = some (pc, (18, (a, (b, (n, l)))))) (h : ¬ m_cond a x 0 = true) (k : n_R X d m (i + 1) ls st M r) : n_R X d m i ls (.int x :: st) M r := n_if hq (by rw [if_neg h]; exact k)
theorem n_cmpT {x y : Int32} (hq : (m_md m).1[i]? = some (pc, (19, (a, (b, (n, l)))))) (h : m_cond a x y = true) (k : n_R X d m b ls st M r) : n_R X d m i ls (.int y :: .int x :: st) M r := n_cmp hq (by rw [if_pos h]; exact k)
theorem n_cmpF {x y : Int32} (hq : (m_md m).1[i]? = some (pc, (19, (a, (b, (n, l)))))) (h : ¬ m_cond a x y = true) (k : n_R X d m (i + 1) ls st M r) : n_R X d m i ls (.int y :: .int x :: st) M r := n_cmp hq (by rw [if_neg h]; exact k)
end JQ
