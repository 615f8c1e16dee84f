/-! A RUN MAKES CELLS, it never unmakes them (written by a program: wip/whole/gen_23.py). -/
def m_mo (z : m_N) : m_M := match z with
  | .inl q => q.2.2.2
  | .inr r => r.2
theorem m_le.rf (M : m_M) : m_le M M := ⟨Nat.le_refl _, Nat.le_refl _⟩
theorem m_le.tr {A B C : m_M} (h : m_le A B) (g : m_le B C) : m_le A C := ⟨Nat.le_trans h.1 g.1, Nat.le_trans h.2 g.2⟩
theorem m_rows_le {t k : Nat} {M : m_M} : ∀ n : Nat, m_le M (m_rows t k M n)
  | 0 => m_le.rf M
  | n + 1 => (m_rows_le n).tr ⟨Nat.le_succ _, Nat.le_add_right _ _⟩
theorem m_add_le {M : m_M} {c : m_C} {n : Nat} : m_le M (m_add M c n) := ⟨Nat.le_succ _, Nat.le_add_right _ _⟩
theorem m_thr_le {pc e : Nat} {M : m_M} {z : m_N} : ∀ hs : List (Nat × (Nat × (Nat × Int32))), m_thr pc e M hs = some z → m_le M (m_mo z)
  | [], h => by
    unfold m_thr m_end at h
    cases h
    exact m_le.rf M
  | q :: hs, h => by
    unfold m_thr m_end at h
    split at h
    · cases h
      exact m_le.rf M
    · exact m_thr_le hs h
theorem le_call {hs : List (Nat × (Nat × (Nat × Int32)))} {cb : m_B} {pc y na rc i : Nat} {ls : m_L} {st : List Value} {M : m_M} {z : m_N} (hc : ∀ (y : Nat) (As : List Value) (M : m_M) (r : m_R), cb y As M = some r → m_le M r.2) (h : s_call hs cb pc y na rc i ls st M = some z) : m_le M (m_mo z) := by
  unfold s_call m_go at h
  split at h
  · split at h
    · cases h
    · rename_i e
      cases h
      exact hc _ _ _ _ e
    · rename_i e
      cases h
      exact hc _ _ _ _ e
    · rename_i e
      exact (hc _ _ _ _ e).tr (m_thr_le hs h)
  · cases h
theorem le_const {v : Int32} {i : Nat} {ls : m_L} {st : List Value} {M : m_M} {z : m_N} (h : s_const v i ls st M = some z) : m_le M (m_mo z) := by
  unfold s_const at h
  try simp only [m_go, m_end] at h
  (repeat' split at h) <;> first | (cases h; done) | (cases h; exact m_le.rf _) | (cases h; exact m_add_le) | (cases h; exact m_add_le.tr (m_rows_le _)) | (cases h; exact ⟨Nat.le_succ _, Nat.le_add_right _ _⟩)
theorem le_iload {a i : Nat} {ls : m_L} {st : List Value} {M : m_M} {z : m_N} (h : s_iload a i ls st M = some z) : m_le M (m_mo z) := by
  unfold s_iload at h
  try simp only [m_go, m_end] at h
  (repeat' split at h) <;> first | (cases h; done) | (cases h; exact m_le.rf _) | (cases h; exact m_add_le) | (cases h; exact m_add_le.tr (m_rows_le _)) | (cases h; exact ⟨Nat.le_succ _, Nat.le_add_right _ _⟩)
theorem le_aload {a i : Nat} {ls : m_L} {st : List Value} {M : m_M} {z : m_N} (h : s_aload a i ls st M = some z) : m_le M (m_mo z) := by
  unfold s_aload at h
  try simp only [m_go, m_end] at h
  (repeat' split at h) <;> first | (cases h; done) | (cases h; exact m_le.rf _) | (cases h; exact m_add_le) | (cases h; exact m_add_le.tr (m_rows_le _)) | (cases h; exact ⟨Nat.le_succ _, Nat.le_add_right _ _⟩)
theorem le_istore {a i : Nat} {ls : m_L} {st : List Value} {M : m_M} {z : m_N} (h : s_istore a i ls st M = some z) : m_le M (m_mo z) := by
  unfold s_istore at h
  try simp only [m_go, m_end] at h
  (repeat' split at h) <;> first | (cases h; done) | (cases h; exact m_le.rf _) | (cases h; exact m_add_le) | (cases h; exact m_add_le.tr (m_rows_le _)) | (cases h; exact ⟨Nat.le_succ _, Nat.le_add_right _ _⟩)
theorem le_astore {a i : Nat} {ls : m_L} {st : List Value} {M : m_M} {z : m_N} (h : s_astore a i ls st M = some z) : m_le M (m_mo z) := by
  unfold s_astore at h
  try simp only [m_go, m_end] at h
  (repeat' split at h) <;> first | (cases h; done) | (cases h; exact m_le.rf _) | (cases h; exact m_add_le) | (cases h; exact m_add_le.tr (m_rows_le _)) | (cases h; exact ⟨Nat.le_succ _, Nat.le_add_right _ _⟩)
theorem le_iinc {a : Nat} {n : Int32} {i : Nat} {ls : m_L} {st : List Value} {M : m_M} {z : m_N} (h : s_iinc a n i ls st M = some z) : m_le M (m_mo z) := by
  unfold s_iinc at h
  try simp only [m_go, m_end] at h
  (repeat' split at h) <;> first | (cases h; done) | (cases h; exact m_le.rf _) | (cases h; exact m_add_le) | (cases h; exact m_add_le.tr (m_rows_le _)) | (cases h; exact ⟨Nat.le_succ _, Nat.le_add_right _ _⟩)
theorem le_getf {ci k i : Nat} {ls : m_L} {st : List Value} {M : m_M} {z : m_N} (h : s_getf ci k i ls st M = some z) : m_le M (m_mo z) := by
  unfold s_getf at h
  try simp only [m_go, m_end] at h
  (repeat' split at h) <;> first | (cases h; done) | (cases h; exact m_le.rf _) | (cases h; exact m_add_le) | (cases h; exact m_add_le.tr (m_rows_le _)) | (cases h; exact ⟨Nat.le_succ _, Nat.le_add_right _ _⟩)
theorem le_putf {ci k kind i : Nat} {ls : m_L} {st : List Value} {M : m_M} {z : m_N} (h : s_putf ci k kind i ls st M = some z) : m_le M (m_mo z) := by
  unfold s_putf at h
  try simp only [m_go, m_end] at h
  (repeat' split at h) <;> first | (cases h; done) | (cases h; exact m_le.rf _) | (cases h; exact m_add_le) | (cases h; exact m_add_le.tr (m_rows_le _)) | (cases h; exact ⟨Nat.le_succ _, Nat.le_add_right _ _⟩)
theorem le_iald {X : m_X} {i : Nat} {ls : m_L} {st : List Value} {M : m_M} {z : m_N} (h : s_iald X i ls st M = some z) : m_le M (m_mo z) := by
  unfold s_iald at h
  try simp only [m_go, m_end] at h
  (repeat' split at h) <;> first | (cases h; done) | (cases h; exact m_le.rf _) | (cases h; exact m_add_le) | (cases h; exact m_add_le.tr (m_rows_le _)) | (cases h; exact ⟨Nat.le_succ _, Nat.le_add_right _ _⟩)
theorem le_bald {i : Nat} {ls : m_L} {st : List Value} {M : m_M} {z : m_N} (h : s_bald i ls st M = some z) : m_le M (m_mo z) := by
  unfold s_bald at h
  try simp only [m_go, m_end] at h
  (repeat' split at h) <;> first | (cases h; done) | (cases h; exact m_le.rf _) | (cases h; exact m_add_le) | (cases h; exact m_add_le.tr (m_rows_le _)) | (cases h; exact ⟨Nat.le_succ _, Nat.le_add_right _ _⟩)
theorem le_lald {i : Nat} {ls : m_L} {st : List Value} {M : m_M} {z : m_N} (h : s_lald i ls st M = some z) : m_le M (m_mo z) := by
  unfold s_lald at h
  try simp only [m_go, m_end] at h
  (repeat' split at h) <;> first | (cases h; done) | (cases h; exact m_le.rf _) | (cases h; exact m_add_le) | (cases h; exact m_add_le.tr (m_rows_le _)) | (cases h; exact ⟨Nat.le_succ _, Nat.le_add_right _ _⟩)
theorem le_aald {i : Nat} {ls : m_L} {st : List Value} {M : m_M} {z : m_N} (h : s_aald i ls st M = some z) : m_le M (m_mo z) := by
  unfold s_aald at h
  try simp only [m_go, m_end] at h
  (repeat' split at h) <;> first | (cases h; done) | (cases h; exact m_le.rf _) | (cases h; exact m_add_le) | (cases h; exact m_add_le.tr (m_rows_le _)) | (cases h; exact ⟨Nat.le_succ _, Nat.le_add_right _ _⟩)
theorem le_iast {i : Nat} {ls : m_L} {st : List Value} {M : m_M} {z : m_N} (h : s_iast i ls st M = some z) : m_le M (m_mo z) := by
  unfold s_iast at h
  try simp only [m_go, m_end] at h
  (repeat' split at h) <;> first | (cases h; done) | (cases h; exact m_le.rf _) | (cases h; exact m_add_le) | (cases h; exact m_add_le.tr (m_rows_le _)) | (cases h; exact ⟨Nat.le_succ _, Nat.le_add_right _ _⟩)
theorem le_bast {i : Nat} {ls : m_L} {st : List Value} {M : m_M} {z : m_N} (h : s_bast i ls st M = some z) : m_le M (m_mo z) := by
  unfold s_bast at h
  try simp only [m_go, m_end] at h
  (repeat' split at h) <;> first | (cases h; done) | (cases h; exact m_le.rf _) | (cases h; exact m_add_le) | (cases h; exact m_add_le.tr (m_rows_le _)) | (cases h; exact ⟨Nat.le_succ _, Nat.le_add_right _ _⟩)
theorem le_last {i : Nat} {ls : m_L} {st : List Value} {M : m_M} {z : m_N} (h : s_last i ls st M = some z) : m_le M (m_mo z) := by
  unfold s_last at h
  try simp only [m_go, m_end] at h
  (repeat' split at h) <;> first | (cases h; done) | (cases h; exact m_le.rf _) | (cases h; exact m_add_le) | (cases h; exact m_add_le.tr (m_rows_le _)) | (cases h; exact ⟨Nat.le_succ _, Nat.le_add_right _ _⟩)
theorem le_aast {i : Nat} {ls : m_L} {st : List Value} {M : m_M} {z : m_N} (h : s_aast i ls st M = some z) : m_le M (m_mo z) := by
  unfold s_aast at h
  try simp only [m_go, m_end] at h
  (repeat' split at h) <;> first | (cases h; done) | (cases h; exact m_le.rf _) | (cases h; exact m_add_le) | (cases h; exact m_add_le.tr (m_rows_le _)) | (cases h; exact ⟨Nat.le_succ _, Nat.le_add_right _ _⟩)
theorem le_alen {X : m_X} {i : Nat} {ls : m_L} {st : List Value} {M : m_M} {z : m_N} (h : s_alen X i ls st M = some z) : m_le M (m_mo z) := by
  unfold s_alen at h
  try simp only [m_go, m_end] at h
  (repeat' split at h) <;> first | (cases h; done) | (cases h; exact m_le.rf _) | (cases h; exact m_add_le) | (cases h; exact m_add_le.tr (m_rows_le _)) | (cases h; exact ⟨Nat.le_succ _, Nat.le_add_right _ _⟩)
theorem le_bin {o i : Nat} {ls : m_L} {st : List Value} {M : m_M} {z : m_N} (h : s_bin o i ls st M = some z) : m_le M (m_mo z) := by
  unfold s_bin at h
  try simp only [m_go, m_end] at h
  (repeat' split at h) <;> first | (cases h; done) | (cases h; exact m_le.rf _) | (cases h; exact m_add_le) | (cases h; exact m_add_le.tr (m_rows_le _)) | (cases h; exact ⟨Nat.le_succ _, Nat.le_add_right _ _⟩)
theorem le_if {c t i : Nat} {ls : m_L} {st : List Value} {M : m_M} {z : m_N} (h : s_if c t i ls st M = some z) : m_le M (m_mo z) := by
  unfold s_if at h
  try simp only [m_go, m_end] at h
  (repeat' split at h) <;> first | (cases h; done) | (cases h; exact m_le.rf _) | (cases h; exact m_add_le) | (cases h; exact m_add_le.tr (m_rows_le _)) | (cases h; exact ⟨Nat.le_succ _, Nat.le_add_right _ _⟩)
theorem le_cmp {c t i : Nat} {ls : m_L} {st : List Value} {M : m_M} {z : m_N} (h : s_cmp c t i ls st M = some z) : m_le M (m_mo z) := by
  unfold s_cmp at h
  try simp only [m_go, m_end] at h
  (repeat' split at h) <;> first | (cases h; done) | (cases h; exact m_le.rf _) | (cases h; exact m_add_le) | (cases h; exact m_add_le.tr (m_rows_le _)) | (cases h; exact ⟨Nat.le_succ _, Nat.le_add_right _ _⟩)
theorem le_switch {d : Nat} {l : List (Int32 × Nat)} {ls : m_L} {st : List Value} {M : m_M} {z : m_N} (h : s_switch d l ls st M = some z) : m_le M (m_mo z) := by
  unfold s_switch at h
  try simp only [m_go, m_end] at h
  (repeat' split at h) <;> first | (cases h; done) | (cases h; exact m_le.rf _) | (cases h; exact m_add_le) | (cases h; exact m_add_le.tr (m_rows_le _)) | (cases h; exact ⟨Nat.le_succ _, Nat.le_add_right _ _⟩)
theorem le_dup {i : Nat} {ls : m_L} {st : List Value} {M : m_M} {z : m_N} (h : s_dup i ls st M = some z) : m_le M (m_mo z) := by
  unfold s_dup at h
  try simp only [m_go, m_end] at h
  (repeat' split at h) <;> first | (cases h; done) | (cases h; exact m_le.rf _) | (cases h; exact m_add_le) | (cases h; exact m_add_le.tr (m_rows_le _)) | (cases h; exact ⟨Nat.le_succ _, Nat.le_add_right _ _⟩)
theorem le_dup2 {i : Nat} {ls : m_L} {st : List Value} {M : m_M} {z : m_N} (h : s_dup2 i ls st M = some z) : m_le M (m_mo z) := by
  unfold s_dup2 at h
  try simp only [m_go, m_end] at h
  (repeat' split at h) <;> first | (cases h; done) | (cases h; exact m_le.rf _) | (cases h; exact m_add_le) | (cases h; exact m_add_le.tr (m_rows_le _)) | (cases h; exact ⟨Nat.le_succ _, Nat.le_add_right _ _⟩)
theorem le_i2l {i : Nat} {ls : m_L} {st : List Value} {M : m_M} {z : m_N} (h : s_i2l i ls st M = some z) : m_le M (m_mo z) := by
  unfold s_i2l at h
  try simp only [m_go, m_end] at h
  (repeat' split at h) <;> first | (cases h; done) | (cases h; exact m_le.rf _) | (cases h; exact m_add_le) | (cases h; exact m_add_le.tr (m_rows_le _)) | (cases h; exact ⟨Nat.le_succ _, Nat.le_add_right _ _⟩)
theorem le_lconst {n i : Nat} {ls : m_L} {st : List Value} {M : m_M} {z : m_N} (h : s_lconst n i ls st M = some z) : m_le M (m_mo z) := by
  unfold s_lconst at h
  try simp only [m_go, m_end] at h
  (repeat' split at h) <;> first | (cases h; done) | (cases h; exact m_le.rf _) | (cases h; exact m_add_le) | (cases h; exact m_add_le.tr (m_rows_le _)) | (cases h; exact ⟨Nat.le_succ _, Nat.le_add_right _ _⟩)
theorem le_lcmp {i : Nat} {ls : m_L} {st : List Value} {M : m_M} {z : m_N} (h : s_lcmp i ls st M = some z) : m_le M (m_mo z) := by
  unfold s_lcmp at h
  try simp only [m_go, m_end] at h
  (repeat' split at h) <;> first | (cases h; done) | (cases h; exact m_le.rf _) | (cases h; exact m_add_le) | (cases h; exact m_add_le.tr (m_rows_le _)) | (cases h; exact ⟨Nat.le_succ _, Nat.le_add_right _ _⟩)
theorem le_iret {kind : Nat} {st : List Value} {M : m_M} {z : m_N} (h : s_iret kind st M = some z) : m_le M (m_mo z) := by
  unfold s_iret at h
  try simp only [m_go, m_end] at h
  (repeat' split at h) <;> first | (cases h; done) | (cases h; exact m_le.rf _) | (cases h; exact m_add_le) | (cases h; exact m_add_le.tr (m_rows_le _)) | (cases h; exact ⟨Nat.le_succ _, Nat.le_add_right _ _⟩)
theorem le_aret {st : List Value} {M : m_M} {z : m_N} (h : s_aret st M = some z) : m_le M (m_mo z) := by
  unfold s_aret at h
  try simp only [m_go, m_end] at h
  (repeat' split at h) <;> first | (cases h; done) | (cases h; exact m_le.rf _) | (cases h; exact m_add_le) | (cases h; exact m_add_le.tr (m_rows_le _)) | (cases h; exact ⟨Nat.le_succ _, Nat.le_add_right _ _⟩)
theorem le_ret {st : List Value} {M : m_M} {z : m_N} (h : s_ret st M = some z) : m_le M (m_mo z) := by
  unfold s_ret at h
  try simp only [m_go, m_end] at h
  (repeat' split at h) <;> first | (cases h; done) | (cases h; exact m_le.rf _) | (cases h; exact m_add_le) | (cases h; exact m_add_le.tr (m_rows_le _)) | (cases h; exact ⟨Nat.le_succ _, Nat.le_add_right _ _⟩)
theorem le_min {i : Nat} {ls : m_L} {st : List Value} {M : m_M} {z : m_N} (h : s_min i ls st M = some z) : m_le M (m_mo z) := by
  unfold s_min at h
  try simp only [m_go, m_end] at h
  (repeat' split at h) <;> first | (cases h; done) | (cases h; exact m_le.rf _) | (cases h; exact m_add_le) | (cases h; exact m_add_le.tr (m_rows_le _)) | (cases h; exact ⟨Nat.le_succ _, Nat.le_add_right _ _⟩)
theorem le_max {i : Nat} {ls : m_L} {st : List Value} {M : m_M} {z : m_N} (h : s_max i ls st M = some z) : m_le M (m_mo z) := by
  unfold s_max at h
  try simp only [m_go, m_end] at h
  (repeat' split at h) <;> first | (cases h; done) | (cases h; exact m_le.rf _) | (cases h; exact m_add_le) | (cases h; exact m_add_le.tr (m_rows_le _)) | (cases h; exact ⟨Nat.le_succ _, Nat.le_add_right _ _⟩)
theorem le_copy {i : Nat} {ls : m_L} {st : List Value} {M : m_M} {z : m_N} (h : s_copy i ls st M = some z) : m_le M (m_mo z) := by
  unfold s_copy at h
  try simp only [m_go, m_end] at h
  (repeat' split at h) <;> first | (cases h; done) | (cases h; exact m_le.rf _) | (cases h; exact m_add_le) | (cases h; exact m_add_le.tr (m_rows_le _)) | (cases h; exact ⟨Nat.le_succ _, Nat.le_add_right _ _⟩)
theorem le_slen {tx : List (List Nat)} {i : Nat} {ls : m_L} {st : List Value} {M : m_M} {z : m_N} (h : s_slen tx i ls st M = some z) : m_le M (m_mo z) := by
  unfold s_slen at h
  try simp only [m_go, m_end] at h
  (repeat' split at h) <;> first | (cases h; done) | (cases h; exact m_le.rf _) | (cases h; exact m_add_le) | (cases h; exact m_add_le.tr (m_rows_le _)) | (cases h; exact ⟨Nat.le_succ _, Nat.le_add_right _ _⟩)
theorem le_char {tx : List (List Nat)} {i : Nat} {ls : m_L} {st : List Value} {M : m_M} {z : m_N} (h : s_char tx i ls st M = some z) : m_le M (m_mo z) := by
  unfold s_char at h
  try simp only [m_go, m_end] at h
  (repeat' split at h) <;> first | (cases h; done) | (cases h; exact m_le.rf _) | (cases h; exact m_add_le) | (cases h; exact m_add_le.tr (m_rows_le _)) | (cases h; exact ⟨Nat.le_succ _, Nat.le_add_right _ _⟩)
theorem le_ldc {k i : Nat} {ls : m_L} {st : List Value} {M : m_M} {z : m_N} (h : s_ldc k i ls st M = some z) : m_le M (m_mo z) := by
  unfold s_ldc at h
  try simp only [m_go, m_end] at h
  (repeat' split at h) <;> first | (cases h; done) | (cases h; exact m_le.rf _) | (cases h; exact m_add_le) | (cases h; exact m_add_le.tr (m_rows_le _)) | (cases h; exact ⟨Nat.le_succ _, Nat.le_add_right _ _⟩)
theorem le_throw {e : Nat} {st : List Value} {M : m_M} {z : m_N} (h : s_throw e st M = some z) : m_le M (m_mo z) := by
  unfold s_throw at h
  try simp only [m_go, m_end] at h
  (repeat' split at h) <;> first | (cases h; done) | (cases h; exact m_le.rf _) | (cases h; exact m_add_le) | (cases h; exact m_add_le.tr (m_rows_le _)) | (cases h; exact ⟨Nat.le_succ _, Nat.le_add_right _ _⟩)
theorem le_new {ci : Nat} {fs : List Value} {i : Nat} {ls : m_L} {st : List Value} {M : m_M} {z : m_N} (h : s_new ci fs i ls st M = some z) : m_le M (m_mo z) := by
  unfold s_new at h
  try simp only [m_go, m_end] at h
  (repeat' split at h) <;> first | (cases h; done) | (cases h; exact m_le.rf _) | (cases h; exact m_add_le) | (cases h; exact m_add_le.tr (m_rows_le _)) | (cases h; exact ⟨Nat.le_succ _, Nat.le_add_right _ _⟩)
theorem le_newa {t i : Nat} {ls : m_L} {st : List Value} {M : m_M} {z : m_N} (h : s_newa t i ls st M = some z) : m_le M (m_mo z) := by
  unfold s_newa at h
  try simp only [m_go, m_end] at h
  (repeat' split at h) <;> first | (cases h; done) | (cases h; exact m_le.rf _) | (cases h; exact m_add_le) | (cases h; exact m_add_le.tr (m_rows_le _)) | (cases h; exact ⟨Nat.le_succ _, Nat.le_add_right _ _⟩)
theorem le_newg {t i : Nat} {ls : m_L} {st : List Value} {M : m_M} {z : m_N} (h : s_newg t i ls st M = some z) : m_le M (m_mo z) := by
  unfold s_newg at h
  try simp only [m_go, m_end] at h
  (repeat' split at h) <;> first | (cases h; done) | (cases h; exact m_le.rf _) | (cases h; exact m_add_le) | (cases h; exact m_add_le.tr (m_rows_le _)) | (cases h; exact ⟨Nat.le_succ _, Nat.le_add_right _ _⟩)
theorem le_pop {i : Nat} {ls : m_L} {st : List Value} {M : m_M} {z : m_N} (h : s_pop i ls st M = some z) : m_le M (m_mo z) := by
  unfold s_pop at h
  try simp only [m_go, m_end] at h
  (repeat' split at h) <;> first | (cases h; done) | (cases h; exact m_le.rf _) | (cases h; exact m_add_le) | (cases h; exact m_add_le.tr (m_rows_le _)) | (cases h; exact ⟨Nat.le_succ _, Nat.le_add_right _ _⟩)
theorem m_sem_le {X : m_X} {tx bn : List (List Nat)} {hs : List (Nat × (Nat × (Nat × Int32)))} {d : Nat} {cb : m_B} {pc i : Nat} {I : m_I} {ls : m_L} {st : List Value} {M : m_M} {z : m_N} (hc : ∀ (y : Nat) (As : List Value) (M : m_M) (r : m_R), cb y As M = some r → m_le M r.2) (h : m_sem X tx bn hs d cb pc i I ls st M = some z) : m_le M (m_mo z) := by
  obtain ⟨o, a, b, n, l⟩ := I
  match o, h with
  | 0, h => exact le_const h
  | 1, h => exact le_iload h
  | 2, h => exact le_aload h
  | 3, h => exact le_istore h
  | 4, h => exact le_astore h
  | 5, h => exact le_iinc h
  | 6, h => exact le_getf h
  | 7, h => exact le_putf h
  | 8, h => exact le_iald h
  | 9, h => exact le_iast h
  | 10, h => exact le_bald h
  | 11, h => exact le_bast h
  | 12, h => exact le_aald h
  | 13, h => exact le_aast h
  | 14, h => exact le_lald h
  | 15, h => exact le_last h
  | 16, h => exact le_alen h
  | 17, h => exact le_bin h
  | 18, h => exact le_if h
  | 19, h => exact le_cmp h
  | 20, h =>
    have h : some (Sum.inl (b, (ls, (st, M)))) = some z := h
    cases h
    exact m_le.rf M
  | 21, h => exact le_switch h
  | 22, h => exact le_dup h
  | 23, h => exact le_dup2 h
  | 24, h => exact le_i2l h
  | 25, h => exact le_lconst h
  | 26, h => exact le_lcmp h
  | 27, h => exact le_iret h
  | 28, h => exact le_aret h
  | 29, h => exact le_ret h
  | 30, h => exact le_call hc h
  | 31, h =>
    have h : (if 12 ≤ d then s_min i ls st M else none) = some z := h
    split at h
    · exact le_min h
    · cases h
  | 32, h =>
    have h : (if 12 ≤ d then s_max i ls st M else none) = some z := h
    split at h
    · exact le_max h
    · cases h
  | 33, h =>
    have h : (if 12 ≤ d then s_copy i ls st M else none) = some z := h
    split at h
    · exact le_copy h
    · cases h
  | 34, h =>
    have h : (if 12 ≤ d then s_slen tx i ls st M else none) = some z := h
    split at h
    · exact le_slen h
    · cases h
  | 35, h =>
    have h : (if 12 ≤ d then s_char tx i ls st M else none) = some z := h
    split at h
    · exact le_char h
    · cases h
  | 36, h =>
    have h : (if 12 ≤ d then s_throw a st M else none) = some z := h
    split at h
    · exact le_throw h
    · cases h
  | 37, h => exact le_new h
  | 38, h => exact le_newa h
  | 39, h => exact le_newg h
  | 40, h =>
    have h : (if 12 ≤ d then s_pop i ls st M else none) = some z := h
    split at h
    · exact le_pop h
    · cases h
  | 41, h => exact le_ldc h
  | k + 42, h => cases h
theorem m_run_le {P : m_P} : ∀ (n d m i : Nat) (ls : m_L) (st : List Value) (M : m_M) (r : m_R), m_run P n d m i ls st M = some r → m_le M r.2
  | 0, _, _, _, _, _, _, _, h => by simp [m_run] at h
  | n + 1, d, m, i, ls, st, M, r, h => by
    unfold m_run at h
    split at h
    · cases h
    · split at h
      · cases h
      · rename_i e
        refine (m_sem_le (fun y As M r hr => ?_) e).tr (m_run_le n _ _ _ _ _ _ _ h)
        match d, hr with
        | 0, hr => cases hr
        | d + 1, hr =>
          simp only at hr
          split at hr
          · exact m_run_le n _ _ _ _ _ _ _ hr
          · cases hr
      · rename_i e
        cases h
        refine m_sem_le (fun y As M r hr => ?_) e
        match d, hr with
        | 0, hr => cases hr
        | d + 1, hr =>
          simp only at hr
          split at hr
          · exact m_run_le n _ _ _ _ _ _ _ hr
          · cases hr
