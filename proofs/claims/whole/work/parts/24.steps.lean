/-! EACH STEP of our machine is the bytecode's (written by a program: wip/whole/gen_24.py). -/
/-- what holds in the body of a method whose run ends in r, with d frames left -/
def j_T (p : Program) (l : Launch) (R : Room) (s : State) (mid : MethodId) (args : Array Value) (meth : Method) (c : Code) (G : j_G) (own : Nat) (cd : ByteArray) (nL : Nat) (rt : Option FieldType) (ini : Bool) (hh : List (Nat × Nat × Nat × Nat)) (c0 s0 d : Nat) (r : m_R) : Prop :=
  j_F p l s mid args meth c own cd nL rt ini hh ∧ j_K G s ∧ j_E G s ∧ (G.1 ≤ s.heap.size ∧ s.heap.size ≤ G.1 + c0) ∧ (d ≤ R.frames ∧ 40 * d ≤ R.locals) ∧ (r.2.2.2.1 ≤ c0 + R.cells ∧ r.2.2.2.2 ≤ s0 + R.slots) ∧ (hh = [] ∨ own = 9) ∧ (¬ (own = 9 ∧ rt = some .boolean) ∨ ∃ v, r.1 = .inl v)
def j_Z (p : Program) (l : Launch) (e : Env) (R : Room) (s : State) (mid : MethodId) (args : Array Value) (below : List Frame) (meth : Method) (c : Code) (G : j_G) (nL c0 s0 : Nat) (L : List (Nat × m_I)) (r : m_R) (z : m_N) : Prop := match z with
  | .inl q => m_le q.2.2.2 r.2 ∧ j_P p l e R s mid args below meth c (j_Q below args s G r) G nL c0 s0 L q.1 q.2.1 q.2.2.1 q.2.2.2
  | .inr r' => r' = r
section JS
variable {p : Program} {l : Launch} {e : Env} {R : Room} {s : State} {mid : MethodId} {args : Array Value} {below : List Frame} {meth : Method} {c : Code}
variable {G : j_G} {nL c0 s0 i own d a b : Nat} {n : Int32} {t : List (Int32 × Nat)} {cd : ByteArray} {rt : Option FieldType} {ini : Bool} {hh : List (Nat × Nat × Nat × Nat)} {L : List (Nat × m_I)} {ls : m_L} {st : List Value} {M : m_M} {r : m_R} {z : m_N}
theorem j_T.room (T : j_T p l R s mid args meth c G own cd nL rt ini hh c0 s0 d r) (hd : 12 ≤ d) (hm : m_le M r.2) : j_R R M c0 s0 := by
  obtain ⟨-, -, -, -, ⟨t1, t2⟩, ⟨t3, t4⟩, -⟩ := T
  obtain ⟨m1, m2⟩ := hm
  exact ⟨by omega, by omega, by omega, by omega⟩
theorem p_const (T : j_T p l R s mid args meth c G own cd nL rt ini hh c0 s0 d r) (hk : m_lk own cd nL rt ini L (m_pc L i) i (0, (a, (b, (n, t)))) = true) (h : s_const n i ls st M = some z) (Z : j_Z p l e R s mid args below meth c G nL c0 s0 L r z) : j_P p l e R s mid args below meth c (j_Q below args s G r) G nL c0 s0 L i ls st M := by
  unfold s_const at h
  try simp only [m_go, m_end] at h
  cases h
  exact i_const T.1 (of_decide_eq_true hk) Z.2
theorem p_iload (T : j_T p l R s mid args meth c G own cd nL rt ini hh c0 s0 d r) (hk : m_lk own cd nL rt ini L (m_pc L i) i (1, (a, (b, (n, t)))) = true) (h : s_iload a i ls st M = some z) (Z : j_Z p l e R s mid args below meth c G nL c0 s0 L r z) : j_P p l e R s mid args below meth c (j_Q below args s G r) G nL c0 s0 L i ls st M := by
  unfold s_iload at h
  try simp only [m_go, m_end] at h
  split at h
  · rename_i x hx
    cases h
    exact i_iload T.1 (of_decide_eq_true hk) hx Z.2
  · cases h
theorem p_aload (T : j_T p l R s mid args meth c G own cd nL rt ini hh c0 s0 d r) (hk : m_lk own cd nL rt ini L (m_pc L i) i (2, (a, (b, (n, t)))) = true) (h : s_aload a i ls st M = some z) (Z : j_Z p l e R s mid args below meth c G nL c0 s0 L r z) : j_P p l e R s mid args below meth c (j_Q below args s G r) G nL c0 s0 L i ls st M := by
  unfold s_aload at h
  try simp only [m_go, m_end] at h
  split at h
  · rename_i x hx
    cases h
    exact i_aload T.1 (of_decide_eq_true hk) hx Z.2
  · cases h
theorem p_istore (T : j_T p l R s mid args meth c G own cd nL rt ini hh c0 s0 d r) (hk : m_lk own cd nL rt ini L (m_pc L i) i (3, (a, (b, (n, t)))) = true) (h : s_istore a i ls st M = some z) (Z : j_Z p l e R s mid args below meth c G nL c0 s0 L r z) : j_P p l e R s mid args below meth c (j_Q below args s G r) G nL c0 s0 L i ls st M := by
  unfold s_istore at h
  try simp only [m_go, m_end] at h
  split at h
  · split at h
    · rename_i hl
      cases h
      exact i_istore T.1 (of_decide_eq_true hk) hl Z.2
    · cases h
  · cases h
theorem p_astore (T : j_T p l R s mid args meth c G own cd nL rt ini hh c0 s0 d r) (hk : m_lk own cd nL rt ini L (m_pc L i) i (4, (a, (b, (n, t)))) = true) (h : s_astore a i ls st M = some z) (Z : j_Z p l e R s mid args below meth c G nL c0 s0 L r z) : j_P p l e R s mid args below meth c (j_Q below args s G r) G nL c0 s0 L i ls st M := by
  unfold s_astore at h
  try simp only [m_go, m_end] at h
  split at h
  · split at h
    · rename_i hl
      cases h
      exact i_astore T.1 (of_decide_eq_true hk) hl Z.2
    · cases h
  · cases h
theorem p_iinc (T : j_T p l R s mid args meth c G own cd nL rt ini hh c0 s0 d r) (hk : m_lk own cd nL rt ini L (m_pc L i) i (5, (a, (b, (n, t)))) = true) (h : s_iinc a n i ls st M = some z) (Z : j_Z p l e R s mid args below meth c G nL c0 s0 L r z) : j_P p l e R s mid args below meth c (j_Q below args s G r) G nL c0 s0 L i ls st M := by
  unfold s_iinc at h
  try simp only [m_go, m_end] at h
  split at h
  · rename_i x hx
    cases h
    exact i_iinc T.1 (of_decide_eq_true hk) hx Z.2
  · cases h
theorem p_getf (T : j_T p l R s mid args meth c G own cd nL rt ini hh c0 s0 d r) (hk : m_lk own cd nL rt ini L (m_pc L i) i (6, (a, (b, (n, t)))) = true) (h : s_getf a b i ls st M = some z) (Z : j_Z p l e R s mid args below meth c G nL c0 s0 L r z) : j_P p l e R s mid args below meth c (j_Q below args s G r) G nL c0 s0 L i ls st M := by
  unfold s_getf at h
  try simp only [m_go, m_end] at h
  obtain ⟨k1, k2⟩ : m_d1 cd L (m_pc L i) i (.getfield (m_ix t)) 3 ∧ m_ifl (own, (m_ix t, (a, b))) := of_decide_eq_true hk
  split at h
  · split at h
    · rename_i c9 fs hM
      split at h
      · rename_i hc
        obtain ⟨hr, rfl⟩ := hc
        split at h
        · rename_i hv
          cases h
          exact i_getf T.1 T.2.1 k1 (m_ifl_in k2) hr hM hv Z.2
        · cases h
      · cases h
    · cases h
  · cases h
theorem p_putf (T : j_T p l R s mid args meth c G own cd nL rt ini hh c0 s0 d r) (hk : m_lk own cd nL rt ini L (m_pc L i) i (7, (a, (b, (n, t)))) = true) (h : s_putf a b n.toNatClampNeg i ls st M = some z) (Z : j_Z p l e R s mid args below meth c G nL c0 s0 L r z) : j_P p l e R s mid args below meth c (j_Q below args s G r) G nL c0 s0 L i ls st M := by
  unfold s_putf at h
  try simp only [m_go, m_end] at h
  obtain ⟨k1, k2, k3, k4⟩ : m_d1 cd L (m_pc L i) i (.putfield (m_ix t)) 3 ∧ m_ifl (own, (m_ix t, (a, b))) ∧ n.toNatClampNeg = m_kd a b ∧ (((m_vc a).2.1 b).2.2.2 = false ∨ (ini = true ∧ own = a)) := of_decide_eq_true hk
  rw [k3] at h
  split at h
  · split at h
    · rename_i hM
      split at h
      · rename_i hc
        obtain ⟨hr, rfl, hl, hf⟩ := hc
        cases h
        exact i_putf T.1 T.2.1 k1 (m_ifl_in k2) k4 hf hr hM hl Z.2
      · cases h
    · cases h
  · cases h
theorem p_iald (T : j_T p l R s mid args meth c G own cd nL rt ini hh c0 s0 d r) (hk : m_lk own cd nL rt ini L (m_pc L i) i (8, (a, (b, (n, t)))) = true) (h : s_iald G.2.2.2.2 i ls st M = some z) (Z : j_Z p l e R s mid args below meth c G nL c0 s0 L r z) : j_P p l e R s mid args below meth c (j_Q below args s G r) G nL c0 s0 L i ls st M := by
  unfold s_iald at h
  try simp only [m_go, m_end] at h
  split at h
  · split at h
    · rename_i hr
      subst hr
      split at h
      · rename_i hj
        cases h
        exact i_scr T.1 T.2.2.1 (of_decide_eq_true hk) hj Z.2
      · cases h
    · split at h
      · rename_i hM
        split at h
        · rename_i hc
          cases h
          exact i_iald T.1 T.2.1 (of_decide_eq_true hk) hc.1 hM hc.2 Z.2
        · cases h
      · cases h
  · cases h
theorem p_bald (T : j_T p l R s mid args meth c G own cd nL rt ini hh c0 s0 d r) (hk : m_lk own cd nL rt ini L (m_pc L i) i (10, (a, (b, (n, t)))) = true) (h : s_bald i ls st M = some z) (Z : j_Z p l e R s mid args below meth c G nL c0 s0 L r z) : j_P p l e R s mid args below meth c (j_Q below args s G r) G nL c0 s0 L i ls st M := by
  unfold s_bald at h
  try simp only [m_go, m_end] at h
  split at h
  · split at h
    · rename_i hM
      split at h
      · rename_i hc
        cases h
        exact i_bald T.1 T.2.1 (of_decide_eq_true hk) hc.1 hM hc.2 Z.2
      · cases h
    · cases h
  · cases h
theorem p_lald (T : j_T p l R s mid args meth c G own cd nL rt ini hh c0 s0 d r) (hk : m_lk own cd nL rt ini L (m_pc L i) i (14, (a, (b, (n, t)))) = true) (h : s_lald i ls st M = some z) (Z : j_Z p l e R s mid args below meth c G nL c0 s0 L r z) : j_P p l e R s mid args below meth c (j_Q below args s G r) G nL c0 s0 L i ls st M := by
  unfold s_lald at h
  try simp only [m_go, m_end] at h
  split at h
  · split at h
    · rename_i hM
      split at h
      · rename_i hc
        cases h
        exact i_lald T.1 T.2.1 (of_decide_eq_true hk) hc.1 hM hc.2 Z.2
      · cases h
    · cases h
  · cases h
theorem p_aald (T : j_T p l R s mid args meth c G own cd nL rt ini hh c0 s0 d r) (hk : m_lk own cd nL rt ini L (m_pc L i) i (12, (a, (b, (n, t)))) = true) (h : s_aald i ls st M = some z) (Z : j_Z p l e R s mid args below meth c G nL c0 s0 L r z) : j_P p l e R s mid args below meth c (j_Q below args s G r) G nL c0 s0 L i ls st M := by
  unfold s_aald at h
  try simp only [m_go, m_end] at h
  split at h
  · split at h
    · rename_i hM
      split at h
      · rename_i hc
        split at h
        · rename_i hf
          cases h
          exact i_aald T.1 T.2.1 (of_decide_eq_true hk) hc.1 hc.2.1 hc.2.2.1 hM hc.2.2.2 hf Z.2
        · cases h
      · cases h
    · cases h
  · cases h
theorem p_iast (T : j_T p l R s mid args meth c G own cd nL rt ini hh c0 s0 d r) (hk : m_lk own cd nL rt ini L (m_pc L i) i (9, (a, (b, (n, t)))) = true) (h : s_iast i ls st M = some z) (Z : j_Z p l e R s mid args below meth c G nL c0 s0 L r z) : j_P p l e R s mid args below meth c (j_Q below args s G r) G nL c0 s0 L i ls st M := by
  unfold s_iast at h
  try simp only [m_go, m_end] at h
  split at h
  · split at h
    · rename_i hM
      split at h
      · rename_i hc
        cases h
        exact i_iast T.1 T.2.1 (of_decide_eq_true hk) hc.1 hM hc.2 Z.2
      · cases h
    · cases h
  · cases h
theorem p_last (T : j_T p l R s mid args meth c G own cd nL rt ini hh c0 s0 d r) (hk : m_lk own cd nL rt ini L (m_pc L i) i (15, (a, (b, (n, t)))) = true) (h : s_last i ls st M = some z) (Z : j_Z p l e R s mid args below meth c G nL c0 s0 L r z) : j_P p l e R s mid args below meth c (j_Q below args s G r) G nL c0 s0 L i ls st M := by
  unfold s_last at h
  try simp only [m_go, m_end] at h
  split at h
  · split at h
    · rename_i hM
      split at h
      · rename_i hc
        cases h
        exact i_last T.1 T.2.1 (of_decide_eq_true hk) hc.1 hM hc.2 Z.2
      · cases h
    · cases h
  · cases h
theorem p_bast (T : j_T p l R s mid args meth c G own cd nL rt ini hh c0 s0 d r) (hk : m_lk own cd nL rt ini L (m_pc L i) i (11, (a, (b, (n, t)))) = true) (h : s_bast i ls st M = some z) (Z : j_Z p l e R s mid args below meth c G nL c0 s0 L r z) : j_P p l e R s mid args below meth c (j_Q below args s G r) G nL c0 s0 L i ls st M := by
  unfold s_bast at h
  try simp only [m_go, m_end] at h
  split at h
  · split at h
    · rename_i hM
      split at h
      · rename_i hc
        cases h
        exact i_bast T.1 T.2.1 (of_decide_eq_true hk) hc.1 hM hc.2.1 hc.2.2 Z.2
      · cases h
    · cases h
  · cases h
theorem p_aast (T : j_T p l R s mid args meth c G own cd nL rt ini hh c0 s0 d r) (hk : m_lk own cd nL rt ini L (m_pc L i) i (13, (a, (b, (n, t)))) = true) (h : s_aast i ls st M = some z) (Z : j_Z p l e R s mid args below meth c G nL c0 s0 L r z) : j_P p l e R s mid args below meth c (j_Q below args s G r) G nL c0 s0 L i ls st M := by
  unfold s_aast at h
  try simp only [m_go, m_end] at h
  split at h
  · split at h
    · rename_i hM hV
      split at h
      · rename_i hc
        cases h
        exact i_aast T.1 T.2.1 (of_decide_eq_true hk) hc.1 hc.2.1 hc.2.2.1 hc.2.2.2.1 hM hV hc.2.2.2.2.1 hc.2.2.2.2.2 Z.2
      · cases h
    · cases h
  · cases h
theorem p_alen (T : j_T p l R s mid args meth c G own cd nL rt ini hh c0 s0 d r) (hk : m_lk own cd nL rt ini L (m_pc L i) i (16, (a, (b, (n, t)))) = true) (h : s_alen G.2.2.2.2 i ls st M = some z) (Z : j_Z p l e R s mid args below meth c G nL c0 s0 L r z) : j_P p l e R s mid args below meth c (j_Q below args s G r) G nL c0 s0 L i ls st M := by
  unfold s_alen at h
  try simp only [m_go, m_end] at h
  split at h
  · split at h
    · rename_i hr
      subst hr
      cases h
      exact i_scl T.1 T.2.2.1 (of_decide_eq_true hk) Z.2
    · split at h
      · rename_i hM
        split at h
        · rename_i hc
          cases h
          exact i_alen T.1 T.2.1 (of_decide_eq_true hk) hc.1 hc.2 hM Z.2
        · cases h
      · cases h
  · cases h
theorem p_bin (T : j_T p l R s mid args meth c G own cd nL rt ini hh c0 s0 d r) (hk : m_lk own cd nL rt ini L (m_pc L i) i (17, (a, (b, (n, t)))) = true) (h : s_bin a i ls st M = some z) (Z : j_Z p l e R s mid args below meth c G nL c0 s0 L r z) : j_P p l e R s mid args below meth c (j_Q below args s G r) G nL c0 s0 L i ls st M := by
  unfold s_bin at h
  try simp only [m_go, m_end] at h
  split at h
  · split at h
    · rename_i hz
      cases h
      exact i_bin T.1 (of_decide_eq_true hk) hz Z.2
    · cases h
  · cases h
theorem p_if (T : j_T p l R s mid args meth c G own cd nL rt ini hh c0 s0 d r) (hk : m_lk own cd nL rt ini L (m_pc L i) i (18, (a, (b, (n, t)))) = true) (h : s_if a b i ls st M = some z) (Z : j_Z p l e R s mid args below meth c G nL c0 s0 L r z) : j_P p l e R s mid args below meth c (j_Q below args s G r) G nL c0 s0 L i ls st M := by
  unfold s_if at h
  try simp only [m_go, m_end] at h
  obtain ⟨k1, -⟩ : m_d1 cd L (m_pc L i) i (.ifCond (m_cnd a) ((m_pc L b : Int) - m_pc L i)) 3 ∧ m_tg L b := of_decide_eq_true hk
  split at h
  · refine i_if T.1 k1 ?_
    split at h
    · rename_i hc
      cases h
      rw [if_pos hc]
      exact Z.2
    · rename_i hc
      cases h
      rw [if_neg hc]
      exact Z.2
  · cases h
theorem p_cmp (T : j_T p l R s mid args meth c G own cd nL rt ini hh c0 s0 d r) (hk : m_lk own cd nL rt ini L (m_pc L i) i (19, (a, (b, (n, t)))) = true) (h : s_cmp a b i ls st M = some z) (Z : j_Z p l e R s mid args below meth c G nL c0 s0 L r z) : j_P p l e R s mid args below meth c (j_Q below args s G r) G nL c0 s0 L i ls st M := by
  unfold s_cmp at h
  try simp only [m_go, m_end] at h
  obtain ⟨k1, -⟩ : m_d1 cd L (m_pc L i) i (.if_icmp (m_cnd a) ((m_pc L b : Int) - m_pc L i)) 3 ∧ m_tg L b := of_decide_eq_true hk
  split at h
  · refine i_cmp T.1 k1 ?_
    split at h
    · rename_i hc
      cases h
      rw [if_pos hc]
      exact Z.2
    · rename_i hc
      cases h
      rw [if_neg hc]
      exact Z.2
  · cases h
theorem p_goto (T : j_T p l R s mid args meth c G own cd nL rt ini hh c0 s0 d r) (hk : m_lk own cd nL rt ini L (m_pc L i) i (20, (a, (b, (n, t)))) = true) (h : m_go b ls st M = some z) (Z : j_Z p l e R s mid args below meth c G nL c0 s0 L r z) : j_P p l e R s mid args below meth c (j_Q below args s G r) G nL c0 s0 L i ls st M := by
  obtain ⟨k1, -⟩ : m_dc cd (m_pc L i) (.goto ((m_pc L b : Int) - m_pc L i)) 3 ∧ m_tg L b := of_decide_eq_true hk
  unfold m_go at h
  cases h
  exact i_goto T.1 k1 Z.2
theorem p_switch (T : j_T p l R s mid args meth c G own cd nL rt ini hh c0 s0 d r) (hk : m_lk own cd nL rt ini L (m_pc L i) i (21, (a, (b, (n, t)))) = true) (h : s_switch b t ls st M = some z) (Z : j_Z p l e R s mid args below meth c G nL c0 s0 L r z) : j_P p l e R s mid args below meth c (j_Q below args s G r) G nL c0 s0 L i ls st M := by
  unfold s_switch at h
  try simp only [m_go, m_end] at h
  split at h
  · cases h
    exact i_switch T.1 (of_decide_eq_true hk) Z.2
  · cases h
theorem p_dup (T : j_T p l R s mid args meth c G own cd nL rt ini hh c0 s0 d r) (hk : m_lk own cd nL rt ini L (m_pc L i) i (22, (a, (b, (n, t)))) = true) (h : s_dup i ls st M = some z) (Z : j_Z p l e R s mid args below meth c G nL c0 s0 L r z) : j_P p l e R s mid args below meth c (j_Q below args s G r) G nL c0 s0 L i ls st M := by
  unfold s_dup at h
  try simp only [m_go, m_end] at h
  split at h
  · split at h
    · rename_i hv
      cases h
      exact i_dup T.1 (of_decide_eq_true hk) hv Z.2
    · cases h
  · cases h
theorem p_dup2 (T : j_T p l R s mid args meth c G own cd nL rt ini hh c0 s0 d r) (hk : m_lk own cd nL rt ini L (m_pc L i) i (23, (a, (b, (n, t)))) = true) (h : s_dup2 i ls st M = some z) (Z : j_Z p l e R s mid args below meth c G nL c0 s0 L r z) : j_P p l e R s mid args below meth c (j_Q below args s G r) G nL c0 s0 L i ls st M := by
  unfold s_dup2 at h
  try simp only [m_go, m_end] at h
  split at h
  · split at h
    · rename_i hv
      cases h
      exact i_dup2 T.1 (of_decide_eq_true hk) hv.1 hv.2 Z.2
    · cases h
  · cases h
theorem p_i2l (T : j_T p l R s mid args meth c G own cd nL rt ini hh c0 s0 d r) (hk : m_lk own cd nL rt ini L (m_pc L i) i (24, (a, (b, (n, t)))) = true) (h : s_i2l i ls st M = some z) (Z : j_Z p l e R s mid args below meth c G nL c0 s0 L r z) : j_P p l e R s mid args below meth c (j_Q below args s G r) G nL c0 s0 L i ls st M := by
  unfold s_i2l at h
  try simp only [m_go, m_end] at h
  split at h
  · cases h
    exact i_i2l T.1 (of_decide_eq_true hk) Z.2
  · cases h
theorem p_lconst (T : j_T p l R s mid args meth c G own cd nL rt ini hh c0 s0 d r) (hk : m_lk own cd nL rt ini L (m_pc L i) i (25, (a, (b, (n, t)))) = true) (h : s_lconst a i ls st M = some z) (Z : j_Z p l e R s mid args below meth c G nL c0 s0 L r z) : j_P p l e R s mid args below meth c (j_Q below args s G r) G nL c0 s0 L i ls st M := by
  unfold s_lconst at h
  try simp only [m_go, m_end] at h
  obtain ⟨k1, k2⟩ : a < 2 ∧ m_d1 cd L (m_pc L i) i (.lconst (Fin.ofNat 2 a)) 1 := of_decide_eq_true hk
  cases h
  exact i_lconst T.1 k1 k2 Z.2
theorem p_lcmp (T : j_T p l R s mid args meth c G own cd nL rt ini hh c0 s0 d r) (hk : m_lk own cd nL rt ini L (m_pc L i) i (26, (a, (b, (n, t)))) = true) (h : s_lcmp i ls st M = some z) (Z : j_Z p l e R s mid args below meth c G nL c0 s0 L r z) : j_P p l e R s mid args below meth c (j_Q below args s G r) G nL c0 s0 L i ls st M := by
  unfold s_lcmp at h
  try simp only [m_go, m_end] at h
  split at h
  · cases h
    exact i_lcmp T.1 (of_decide_eq_true hk) Z.2
  · cases h
theorem p_iret (T : j_T p l R s mid args meth c G own cd nL rt ini hh c0 s0 d r) (hk : m_lk own cd nL rt ini L (m_pc L i) i (27, (a, (b, (n, t)))) = true) (h : s_iret a st M = some z) (Z : j_Z p l e R s mid args below meth c G nL c0 s0 L r z) : j_P p l e R s mid args below meth c (j_Q below args s G r) G nL c0 s0 L i ls st M := by
  unfold s_iret at h
  try simp only [m_go, m_end] at h
  obtain ⟨k1, k2⟩ : m_dc cd (m_pc L i) .ireturn 1 ∧ ((a = 0 ∧ rt = some .int) ∨ (a = 1 ∧ rt = some .boolean)) := of_decide_eq_true hk
  split at h
  · split at h
    · rename_i hv
      cases h
      obtain rfl := Z
      exact i_iret T.1 k1 k2 hv
    · cases h
  · cases h
theorem p_aret (T : j_T p l R s mid args meth c G own cd nL rt ini hh c0 s0 d r) (hk : m_lk own cd nL rt ini L (m_pc L i) i (28, (a, (b, (n, t)))) = true) (h : s_aret st M = some z) (Z : j_Z p l e R s mid args below meth c G nL c0 s0 L r z) : j_P p l e R s mid args below meth c (j_Q below args s G r) G nL c0 s0 L i ls st M := by
  unfold s_aret at h
  try simp only [m_go, m_end] at h
  obtain ⟨k1, k2⟩ : m_dc cd (m_pc L i) .areturn 1 ∧ rt = some (.object RX4) := of_decide_eq_true hk
  split at h
  · cases h
    obtain rfl := Z
    exact i_aret T.1 k1 k2
  · cases h
theorem p_ret (T : j_T p l R s mid args meth c G own cd nL rt ini hh c0 s0 d r) (hk : m_lk own cd nL rt ini L (m_pc L i) i (29, (a, (b, (n, t)))) = true) (h : s_ret st M = some z) (Z : j_Z p l e R s mid args below meth c G nL c0 s0 L r z) : j_P p l e R s mid args below meth c (j_Q below args s G r) G nL c0 s0 L i ls st M := by
  unfold s_ret at h
  try simp only [m_go, m_end] at h
  obtain ⟨k1, k2⟩ : m_dc cd (m_pc L i) .return_ 1 ∧ rt = none := of_decide_eq_true hk
  split at h
  · cases h
    obtain rfl := Z
    exact i_ret T.1 k1 k2
  · cases h
theorem p_min (T : j_T p l R s mid args meth c G own cd nL rt ini hh c0 s0 d r) (hk : m_lk own cd nL rt ini L (m_pc L i) i (31, (a, (b, (n, t)))) = true) (h : (if 12 ≤ d then s_min i ls st M else none) = some z) (Z : j_Z p l e R s mid args below meth c G nL c0 s0 L r z) : j_P p l e R s mid args below meth c (j_Q below args s G r) G nL c0 s0 L i ls st M := by
  unfold s_min at h
  try simp only [m_go, m_end] at h
  obtain ⟨k1, k2⟩ : m_d1 cd L (m_pc L i) i (.invokestatic (m_ix t)) 3 ∧ (own, (m_ix t, 1)) ∈ m_jl := of_decide_eq_true hk
  split at h
  · rename_i hd
    split at h
    · split at h
      · rename_i hs
        cases h
        exact i_min T.1 (T.room (M := M) hd Z.1) k1 k2 hs Z.2
      · cases h
    · cases h
  · cases h
theorem p_max (T : j_T p l R s mid args meth c G own cd nL rt ini hh c0 s0 d r) (hk : m_lk own cd nL rt ini L (m_pc L i) i (32, (a, (b, (n, t)))) = true) (h : (if 12 ≤ d then s_max i ls st M else none) = some z) (Z : j_Z p l e R s mid args below meth c G nL c0 s0 L r z) : j_P p l e R s mid args below meth c (j_Q below args s G r) G nL c0 s0 L i ls st M := by
  unfold s_max at h
  try simp only [m_go, m_end] at h
  obtain ⟨k1, k2⟩ : m_d1 cd L (m_pc L i) i (.invokestatic (m_ix t)) 3 ∧ (own, (m_ix t, 2)) ∈ m_jl := of_decide_eq_true hk
  split at h
  · rename_i hd
    split at h
    · split at h
      · rename_i hs
        cases h
        exact i_max T.1 (T.room (M := M) hd Z.1) k1 k2 hs Z.2
      · cases h
    · cases h
  · cases h
theorem p_copy (T : j_T p l R s mid args meth c G own cd nL rt ini hh c0 s0 d r) (hk : m_lk own cd nL rt ini L (m_pc L i) i (33, (a, (b, (n, t)))) = true) (h : (if 12 ≤ d then s_copy i ls st M else none) = some z) (Z : j_Z p l e R s mid args below meth c G nL c0 s0 L r z) : j_P p l e R s mid args below meth c (j_Q below args s G r) G nL c0 s0 L i ls st M := by
  unfold s_copy at h
  try simp only [m_go, m_end] at h
  obtain ⟨k1, k2⟩ : m_d1 cd L (m_pc L i) i (.invokestatic (m_ix t)) 3 ∧ (own, (m_ix t, 3)) ∈ m_jl := of_decide_eq_true hk
  split at h
  · rename_i hd
    split at h
    · split at h
      · rename_i hMb hMa
        split at h
        · rename_i hc
          obtain ⟨c1, c2, c3, c4, c5, c6, c7, c8⟩ := hc
          cases h
          exact i_copy T.1 T.2.1 (T.room (M := M) hd Z.1) k1 k2 c3 c1 c2 hMb hMa c4 c5 c6 c7 c8 Z.2
        · cases h
      · cases h
    · cases h
  · cases h
theorem p_slen (T : j_T p l R s mid args meth c G own cd nL rt ini hh c0 s0 d r) (hk : m_lk own cd nL rt ini L (m_pc L i) i (34, (a, (b, (n, t)))) = true) (h : (if 12 ≤ d then s_slen m_text i ls st M else none) = some z) (Z : j_Z p l e R s mid args below meth c G nL c0 s0 L r z) : j_P p l e R s mid args below meth c (j_Q below args s G r) G nL c0 s0 L i ls st M := by
  unfold s_slen at h
  try simp only [m_go, m_end] at h
  obtain ⟨k1, k2⟩ : m_d1 cd L (m_pc L i) i (.invokevirtual (m_ix t)) 3 ∧ (own, (m_ix t, 4)) ∈ m_jl := of_decide_eq_true hk
  split at h
  · rename_i hd
    split at h
    · split at h
      · rename_i hc
        cases h
        exact i_slen T.1 T.2.2.1 (T.room (M := M) hd Z.1) k1 k2 hc.1 hc.2.1 hc.2.2 Z.2
      · cases h
    · cases h
  · cases h
theorem p_char (T : j_T p l R s mid args meth c G own cd nL rt ini hh c0 s0 d r) (hk : m_lk own cd nL rt ini L (m_pc L i) i (35, (a, (b, (n, t)))) = true) (h : (if 12 ≤ d then s_char m_text i ls st M else none) = some z) (Z : j_Z p l e R s mid args below meth c G nL c0 s0 L r z) : j_P p l e R s mid args below meth c (j_Q below args s G r) G nL c0 s0 L i ls st M := by
  unfold s_char at h
  try simp only [m_go, m_end] at h
  obtain ⟨k1, k2⟩ : m_d1 cd L (m_pc L i) i (.invokevirtual (m_ix t)) 3 ∧ (own, (m_ix t, 5)) ∈ m_jl := of_decide_eq_true hk
  split at h
  · rename_i hd
    split at h
    · split at h
      · rename_i hc
        cases h
        exact i_char T.1 T.2.2.1 (T.room (M := M) hd Z.1) k1 k2 hc.1 hc.2.1 hc.2.2.1 hc.2.2.2 Z.2
      · cases h
    · cases h
  · cases h
theorem p_throw (T : j_T p l R s mid args meth c G own cd nL rt ini hh c0 s0 d r) (hk : m_lk own cd nL rt ini L (m_pc L i) i (36, (a, (b, (n, t)))) = true) (h : (if 12 ≤ d then s_throw a st M else none) = some z) (Z : j_Z p l e R s mid args below meth c G nL c0 s0 L r z) : j_P p l e R s mid args below meth c (j_Q below args s G r) G nL c0 s0 L i ls st M := by
  unfold s_throw at h
  try simp only [m_go, m_end] at h
  split at h
  · rename_i hd
    split at h
    · rename_i hs
      cases h
      obtain rfl := Z
      match t, hk with
      | [w, is, ic], hk =>
        obtain ⟨k1, k2⟩ : m_tw cd (m_pc L i) w.2 is.2 ic.2 w.1.toNatClampNeg ∧ (own, (w.2, (is.2, (ic.2, a)))) ∈ m_tl := of_decide_eq_true hk
        have h0 : hh = [] := by
          rcases T.2.2.2.2.2.2.1 with h | h
          · exact h
          · have := (y_tl _ k2).1
            simp only at this
            omega
        exact i_throw T.1 T.2.2.1 h0 (T.room hd (m_le.rf _)) k1 k2 hs
      | [], hk => cases hk
      | [_], hk => cases hk
      | [_, _], hk => cases hk
      | _ :: _ :: _ :: _ :: _, hk => cases hk
    · cases h
  · cases h
theorem p_new (T : j_T p l R s mid args meth c G own cd nL rt ini hh c0 s0 d r) (hk : m_lk own cd nL rt ini L (m_pc L i) i (37, (a, (b, (n, t)))) = true) (h : s_new a (m_born (m_born9.getD a [])) i ls st M = some z) (Z : j_Z p l e R s mid args below meth c G nL c0 s0 L r z) : j_P p l e R s mid args below meth c (j_Q below args s G r) G nL c0 s0 L i ls st M := by
  unfold s_new at h
  try simp only [m_go, m_end] at h
  obtain ⟨k1, k2, k3⟩ : m_d1 cd L (m_pc L i) i (.new (m_ix t)) 3 ∧ (own, (m_ix t, a)) ∈ m_cl ∧ a < 9 := of_decide_eq_true hk
  obtain ⟨T1, T2, T3, T4, T5, ⟨t1, t2⟩, T7⟩ := T
  split at h
  · rename_i hc
    cases h
    obtain ⟨z1, z2⟩ := Z.1
    exact i_new T1 T2 T4 k3 k1 k2 hc.1 hc.2 (Nat.le_trans z1 t1) (Nat.le_trans z2 t2) Z.2
  · cases h
theorem p_newa (T : j_T p l R s mid args meth c G own cd nL rt ini hh c0 s0 d r) (hk : m_lk own cd nL rt ini L (m_pc L i) i (38, (a, (b, (n, t)))) = true) (h : s_newa a i ls st M = some z) (Z : j_Z p l e R s mid args below meth c G nL c0 s0 L r z) : j_P p l e R s mid args below meth c (j_Q below args s G r) G nL c0 s0 L i ls st M := by
  unfold s_newa at h
  try simp only [m_go, m_end] at h
  obtain ⟨k1, k2⟩ : m_pc L (i + 1) = m_pc L i + (if a < 3 then 2 else 3) ∧ ((a < 3 ∧ m_dc cd (m_pc L i) (.newarray (m_at a)) 2) ∨ (5 ≤ a ∧ m_dc cd (m_pc L i) (.anewarray (m_ix t)) 3 ∧ (own, (m_ix t, a)) ∈ m_al)) := of_decide_eq_true hk
  obtain ⟨T1, T2, T3, T4, T5, ⟨t1, t2⟩, T7⟩ := T
  split at h
  · split at h
    · rename_i hc
      obtain ⟨c1, c2, c3, c4, c5⟩ := hc
      cases h
      obtain ⟨z1, z2⟩ := Z.1
      rcases k2 with ⟨g1, g2⟩ | ⟨g1, g2, g3⟩
      · rw [if_pos g1] at k1
        exact i_newp T1 T2 T4 g1 ⟨g2, k1⟩ c1 c2 c4 c5 (Nat.le_trans z1 t1) (Nat.le_trans z2 t2) Z.2
      · rw [if_neg (by omega)] at k1
        exact i_newq T1 T2 T3 T4 g1 c3 ⟨g2, k1⟩ g3 c1 c2 c4 c5 (Nat.le_trans z1 t1) (Nat.le_trans z2 t2) Z.2
    · cases h
  · cases h
theorem p_newg (T : j_T p l R s mid args meth c G own cd nL rt ini hh c0 s0 d r) (hk : m_lk own cd nL rt ini L (m_pc L i) i (39, (a, (b, (n, t)))) = true) (h : s_newg a i ls st M = some z) (Z : j_Z p l e R s mid args below meth c G nL c0 s0 L r z) : j_P p l e R s mid args below meth c (j_Q below args s G r) G nL c0 s0 L i ls st M := by
  unfold s_newg at h
  try simp only [m_go, m_end] at h
  obtain ⟨k1, k2⟩ : m_d1 cd L (m_pc L i) i (.multianewarray (m_ix t) 2) 4 ∧ (own, (m_ix t, a + 3)) ∈ m_al := of_decide_eq_true hk
  obtain ⟨T1, T2, T3, T4, T5, ⟨t1, t2⟩, T7⟩ := T
  split at h
  · split at h
    · rename_i hc
      obtain ⟨c1, c2, c3, c4, c5, c6, c7⟩ := hc
      cases h
      obtain ⟨z1, z2⟩ := Z.1
      exact i_newg T1 T2 T3 T4 c3 k1 k2 c1 c2 c4 c5 c6 c7 rfl (Nat.le_trans z1 t1) (Nat.le_trans z2 t2) Z.2
    · cases h
  · cases h
theorem p_pop (T : j_T p l R s mid args meth c G own cd nL rt ini hh c0 s0 d r) (hk : m_lk own cd nL rt ini L (m_pc L i) i (40, (a, (b, (n, t)))) = true) (h : (if 12 ≤ d then s_pop i ls st M else none) = some z) (Z : j_Z p l e R s mid args below meth c G nL c0 s0 L r z) : j_P p l e R s mid args below meth c (j_Q below args s G r) G nL c0 s0 L i ls st M := by
  unfold s_pop at h
  try simp only [m_go, m_end] at h
  obtain ⟨k1, k2⟩ : m_d1 cd L (m_pc L i) i (.invokespecial (m_ix t)) 3 ∧ (own, (m_ix t, 0)) ∈ m_jl := of_decide_eq_true hk
  split at h
  · rename_i hd
    split at h
    · split at h
      · rename_i hs
        cases h
        exact i_pop T.1 (T.room (M := M) hd Z.1) k1 k2 hs Z.2
      · cases h
    · cases h
  · cases h
theorem p_ldc (T : j_T p l R s mid args meth c G own cd nL rt ini hh c0 s0 d r) (hk : m_lk own cd nL rt ini L (m_pc L i) i (41, (a, (b, (n, t)))) = true) (h : s_ldc a i ls st M = some z) (Z : j_Z p l e R s mid args below meth c G nL c0 s0 L r z) : j_P p l e R s mid args below meth c (j_Q below args s G r) G nL c0 s0 L i ls st M := by
  unfold s_ldc at h
  try simp only [m_go, m_end] at h
  obtain ⟨k1, k2⟩ : m_d1 cd L (m_pc L i) i (.ldc b) 2 ∧ (own, (b, a)) ∈ m_sl := of_decide_eq_true hk
  cases h
  exact i_ldc T.1 T.2.2.1 k1 k2 Z.2
end JS
