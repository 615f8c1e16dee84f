/-! THE METHODS AS FUNCTIONS OF THE INTS (written by a program: wip/whole/gen_51.py): first the cells' kinds. -/
abbrev o_0 (x : Nat) : g_L := (0, (0, [x + 3, 0, 0, 0, 0, 0, x + 4, 0, x + 5]))
abbrev o_1 : g_L := (0, (1, [80, 81, 82, 83, 84, 85, 86, 0]))
abbrev o_2 (x : Nat) : g_L := (0, (2, [0, x + 3, x + 4]))
abbrev o_3 (x : Nat) : g_L := (0, (3, [0, 0, 0, 0, 0, 0, 0, 0]))
abbrev o_4 (x : Nat) : g_L := (0, (4, [0, 0, x + 3, x + 4, x + 5, x + 6, x + 7, x + 8, 0, x + 9]))
abbrev o_5 : g_L := (0, (5, [0, 0, 1, 0, 1, 0, 0, 0, 0, 0]))
abbrev o_6 (x : Nat) : g_L := (0, (6, [0, 0, 0]))
abbrev o_7 : g_L := (0, (7, [3, 0, 4, 0, 5, 13, 0, 23, 24, 51, 78, 0, 79, 87]))
abbrev o_8 : g_L := (0, (8, [0, 0, 0, 0, 0, 0, 0, 0, 0, 202, 203, 208, 0, 0, 209, 0, 0, 0, 0, 0, 0, 0, 0, 0, 0, 0, 0, 0, 0, 0, 210, 224, 225, 226, 0, 240, 241, 242, 243, 244, 245, 246, 247, 0, 261, 270, 0, 0, 284, 0, 0, 541, 0, 562]))
abbrev a_6 (x : Nat) : g_L := (7, (13, (List.range 13).map fun k => x + 6 + k))
abbrev a_7 (x : Nat) : g_L := (8, (8, (List.range 8).map fun k => x + 19 + k))
theorem t_0 : g_lay 0 = o_7 := by decide +kernel
theorem t_1 : g_lay 1 = (1, (500, [])) := by decide +kernel
theorem t_3 : g_lay 3 = o_4 3 := by decide +kernel
theorem t_11 : g_lay 11 = o_5 := by decide +kernel
theorem t_21 : g_lay 21 = (1, (8, [])) := by decide +kernel
theorem t_22 : g_lay 22 = o_0 22 := by decide +kernel
theorem t_25 : g_lay 25 = o_2 25 := by decide +kernel
theorem t_49 : g_lay 49 = o_0 49 := by decide +kernel
theorem t_77 : g_lay 77 = o_1 := by decide +kernel
theorem t_78 : g_lay 78 = (1, (13, [])) := by decide +kernel
theorem t_79 : g_lay 79 = (1, (13, [])) := by decide +kernel
theorem t_80 : g_lay 80 = (1, (13, [])) := by decide +kernel
theorem t_81 : g_lay 81 = (1, (13, [])) := by decide +kernel
theorem t_82 : g_lay 82 = (2, (13, [])) := by decide +kernel
theorem t_83 : g_lay 83 = (1, (13, [])) := by decide +kernel
theorem t_84 : g_lay 84 = (1, (8, [])) := by decide +kernel
theorem t_85 : g_lay 85 = (1, (3328, [])) := by decide +kernel
theorem t_199 : g_lay 199 = o_8 := by decide +kernel
theorem t_200 : g_lay 200 = (1, (500, [])) := by decide +kernel
theorem t_206 : g_lay 206 = (1, (4, [])) := by decide +kernel
theorem t_207 : g_lay 207 = (1, (8, [])) := by decide +kernel
theorem t_222 : g_lay 222 = (1, (13, [])) := by decide +kernel
theorem t_223 : g_lay 223 = (1, (13, [])) := by decide +kernel
theorem t_238 : g_lay 238 = (1, (13, [])) := by decide +kernel
theorem t_239 : g_lay 239 = (1, (13, [])) := by decide +kernel
theorem t_240 : g_lay 240 = (1, (13, [])) := by decide +kernel
theorem t_241 : g_lay 241 = (1, (13, [])) := by decide +kernel
theorem t_242 : g_lay 242 = (1, (13, [])) := by decide +kernel
theorem t_243 : g_lay 243 = (2, (13, [])) := by decide +kernel
theorem t_244 : g_lay 244 = (2, (13, [])) := by decide +kernel
theorem t_564 : g_lay 564 = (3, (1, [])) := by decide +kernel
theorem ta_2 : g_lay 2 = (6, (4, (List.range 4).map fun k => 86 + 8 * k)) := by decide +kernel
theorem ta_23 : g_lay 23 = a_6 22 := by decide +kernel
theorem ta_24 : g_lay 24 = a_7 22 := by decide +kernel
theorem ta_50 : g_lay 50 = a_6 49 := by decide +kernel
theorem ta_76 : g_lay 76 = (9, (3, (List.range 3).map fun k => 118 + 27 * k)) := by decide +kernel
theorem ta_201 : g_lay 201 = (4, (4, (List.range 4).map fun k => 202 + k)) := by decide +kernel
theorem ta_208 : g_lay 208 = (4, (13, (List.range 13).map fun k => 209 + k)) := by decide +kernel
theorem ta_224 : g_lay 224 = (5, (13, (List.range 13).map fun k => 225 + k)) := by decide +kernel
theorem ta_245 : g_lay 245 = (4, (13, (List.range 13).map fun k => 246 + k)) := by decide +kernel
theorem ta_259 : g_lay 259 = (4, (8, (List.range 8).map fun k => 260 + k)) := by decide +kernel
theorem ta_268 : g_lay 268 = (5, (13, (List.range 13).map fun k => 269 + k)) := by decide +kernel
theorem ta_282 : g_lay 282 = (4, (256, (List.range 256).map fun k => 283 + k)) := by decide +kernel
theorem ta_539 : g_lay 539 = (4, (20, (List.range 20).map fun k => 540 + k)) := by decide +kernel
theorem ta_560 : g_lay 560 = (4, (3, (List.range 3).map fun k => 561 + k)) := by decide +kernel
/-- a look at all cells at once -/
def g_chk (Q : Nat → g_L → Bool) : Nat → List g_L → Bool
  | _, [] => true
  | k, L :: l => Q k L && g_chk Q (k + 1) l
theorem g_chk_at {Q : Nat → g_L → Bool} : ∀ (l : List g_L) (k : Nat), g_chk Q k l = true → ∀ j, j < l.length → Q (k + j) (l.getD j (0, (0, []))) = true
  | [], k, h, j, hj => by simp at hj
  | L :: l, k, h, 0, hj => by
    unfold g_chk at h
    exact (Bool.and_eq_true _ _ ▸ h).1
  | L :: l, k, h, j + 1, hj => by
    unfold g_chk at h
    have h2 := g_chk_at l (k + 1) (Bool.and_eq_true _ _ ▸ h).2 j (by simpa using hj)
    rw [show k + (j + 1) = k + 1 + j from by omega]
    exact h2
theorem g_chk_lay {Q : Nat → g_L → Bool} (h : g_chk Q 0 g_tab = true) {x : Nat} (hx : x < 565) : Q x (g_lay x) = true := by
  have h1 := g_chk_at g_tab 0 h x (by rw [g_tab_len]; exact hx)
  rw [Nat.zero_add] at h1
  exact h1
theorem g_cl_0 {x : Nat} (h : g_lay x = o_0 x) : x ∈ [22, 49, 118, 145, 172] := of_decide_eq_true (of_decide_eq_true (g_chk_lay (Q := fun k L => decide (L = o_0 k → decide (k ∈ [22, 49, 118, 145, 172]) = true)) (by decide +kernel) (g_lto (b := 0) h rfl)) h)
theorem g_cl_2 {x : Nat} (h : g_lay x = o_2 x) : x ∈ [25, 52, 121, 148, 175] := of_decide_eq_true (of_decide_eq_true (g_chk_lay (Q := fun k L => decide (L = o_2 k → decide (k ∈ [25, 52, 121, 148, 175]) = true)) (by decide +kernel) (g_lto (b := 0) h rfl)) h)
theorem g_cl_4 {x : Nat} (h : g_lay x = o_4 x) : x ∈ [3, 13, 86, 94, 102, 110] := of_decide_eq_true (of_decide_eq_true (g_chk_lay (Q := fun k L => decide (L = o_4 k → decide (k ∈ [3, 13, 86, 94, 102, 110]) = true)) (by decide +kernel) (g_lto (b := 0) h rfl)) h)
theorem tf_0_0 {x : Nat} (h : g_lay x = o_0 x) : g_lay (x + 1) = a_6 x := by
  have k : ∀ x ∈ [22, 49, 118, 145, 172], g_lay (x + 1) = a_6 x := by decide +kernel
  exact k x (g_cl_0 h)
theorem tf_0_6 {x : Nat} (h : g_lay x = o_0 x) : g_lay (x + 2) = a_7 x := by
  have k : ∀ x ∈ [22, 49, 118, 145, 172], g_lay (x + 2) = a_7 x := by decide +kernel
  exact k x (g_cl_0 h)
theorem tf_0_8 {x : Nat} (h : g_lay x = o_0 x) : g_lay (x + 3) = o_2 (x + 3) := by
  have k : ∀ x ∈ [22, 49, 118, 145, 172], g_lay (x + 3) = o_2 (x + 3) := by decide +kernel
  exact k x (g_cl_0 h)
theorem tf_2_1 {x : Nat} (h : g_lay x = o_2 x) : g_lay (x + 1) = (1, (20, [])) := by
  have k : ∀ x ∈ [25, 52, 121, 148, 175], g_lay (x + 1) = (1, (20, [])) := by decide +kernel
  exact k x (g_cl_2 h)
theorem tf_2_2 {x : Nat} (h : g_lay x = o_2 x) : g_lay (x + 2) = (1, (20, [])) := by
  have k : ∀ x ∈ [25, 52, 121, 148, 175], g_lay (x + 2) = (1, (20, [])) := by decide +kernel
  exact k x (g_cl_2 h)
theorem tf_4_2 {x : Nat} (h : g_lay x = o_4 x) : g_lay (x + 1) = (1, (24, [])) := by
  have k : ∀ x ∈ [3, 13, 86, 94, 102, 110], g_lay (x + 1) = (1, (24, [])) := by decide +kernel
  exact k x (g_cl_4 h)
theorem tf_4_3 {x : Nat} (h : g_lay x = o_4 x) : g_lay (x + 2) = (1, (24, [])) := by
  have k : ∀ x ∈ [3, 13, 86, 94, 102, 110], g_lay (x + 2) = (1, (24, [])) := by decide +kernel
  exact k x (g_cl_4 h)
theorem tf_4_4 {x : Nat} (h : g_lay x = o_4 x) : g_lay (x + 3) = (1, (24, [])) := by
  have k : ∀ x ∈ [3, 13, 86, 94, 102, 110], g_lay (x + 3) = (1, (24, [])) := by decide +kernel
  exact k x (g_cl_4 h)
theorem tf_4_5 {x : Nat} (h : g_lay x = o_4 x) : g_lay (x + 4) = (1, (24, [])) := by
  have k : ∀ x ∈ [3, 13, 86, 94, 102, 110], g_lay (x + 4) = (1, (24, [])) := by decide +kernel
  exact k x (g_cl_4 h)
theorem tf_4_6 {x : Nat} (h : g_lay x = o_4 x) : g_lay (x + 5) = (1, (24, [])) := by
  have k : ∀ x ∈ [3, 13, 86, 94, 102, 110], g_lay (x + 5) = (1, (24, [])) := by decide +kernel
  exact k x (g_cl_4 h)
theorem tf_4_7 {x : Nat} (h : g_lay x = o_4 x) : g_lay (x + 6) = (1, (500, [])) := by
  have k : ∀ x ∈ [3, 13, 86, 94, 102, 110], g_lay (x + 6) = (1, (500, [])) := by decide +kernel
  exact k x (g_cl_4 h)
theorem tf_4_9 {x : Nat} (h : g_lay x = o_4 x) : g_lay (x + 7) = (1, (24, [])) := by
  have k : ∀ x ∈ [3, 13, 86, 94, 102, 110], g_lay (x + 7) = (1, (24, [])) := by decide +kernel
  exact k x (g_cl_4 h)
theorem te_5 {k : Nat} (hk : k < 4) : g_lay (86 + 8 * k) = o_4 (86 + 8 * k) := by
  have q : ∀ k < 4, g_lay (86 + 8 * k) = o_4 (86 + 8 * k) := by decide +kernel
  exact q k hk
theorem te_6 {x k : Nat} (h : g_lay x = o_0 x) (hk : k < 13) : g_lay (x + 6 + k) = o_3 (x + 6 + k) := by
  have q : ∀ x ∈ [22, 49, 118, 145, 172], ∀ k < 13, g_lay (x + 6 + k) = o_3 (x + 6 + k) := by decide +kernel
  exact q x (g_cl_0 h) k hk
theorem te_7 {x k : Nat} (h : g_lay x = o_0 x) (hk : k < 8) : g_lay (x + 19 + k) = o_6 (x + 19 + k) := by
  have q : ∀ x ∈ [22, 49, 118, 145, 172], ∀ k < 8, g_lay (x + 19 + k) = o_6 (x + 19 + k) := by decide +kernel
  exact q x (g_cl_0 h) k hk
theorem te_8 {k : Nat} (hk : k < 3) : g_lay (118 + 27 * k) = o_0 (118 + 27 * k) := by
  have q : ∀ k < 3, g_lay (118 + 27 * k) = o_0 (118 + 27 * k) := by decide +kernel
  exact q k hk
theorem te_201 {k : Nat} (hk : k < 4) : g_lay (202 + k) = (1, (500, [])) := by
  have q : ∀ k < 4, g_lay (202 + k) = (1, (500, [])) := by decide +kernel
  exact q k hk
theorem te_208 {k : Nat} (hk : k < 13) : g_lay (209 + k) = (1, (5, [])) := by
  have q : ∀ k < 13, g_lay (209 + k) = (1, (5, [])) := by decide +kernel
  exact q k hk
theorem te_224 {k : Nat} (hk : k < 13) : g_lay (225 + k) = (2, (4, [])) := by
  have q : ∀ k < 13, g_lay (225 + k) = (2, (4, [])) := by decide +kernel
  exact q k hk
theorem te_245 {k : Nat} (hk : k < 13) : g_lay (246 + k) = (1, (8, [])) := by
  have q : ∀ k < 13, g_lay (246 + k) = (1, (8, [])) := by decide +kernel
  exact q k hk
theorem te_259 {k : Nat} (hk : k < 8) : g_lay (260 + k) = (1, (3, [])) := by
  have q : ∀ k < 8, g_lay (260 + k) = (1, (3, [])) := by decide +kernel
  exact q k hk
theorem te_268 {k : Nat} (hk : k < 13) : g_lay (269 + k) = (2, (4, [])) := by
  have q : ∀ k < 13, g_lay (269 + k) = (2, (4, [])) := by decide +kernel
  exact q k hk
theorem te_282 {k : Nat} (hk : k < 256) : g_lay (283 + k) = (1, (13, [])) := by
  have q : ∀ k < 256, g_lay (283 + k) = (1, (13, [])) := by decide +kernel
  exact q k hk
theorem te_539 {k : Nat} (hk : k < 20) : g_lay (540 + k) = (1, (2, [])) := by
  have q : ∀ k < 20, g_lay (540 + k) = (1, (2, [])) := by decide +kernel
  exact q k hk
theorem te_560 {k : Nat} (hk : k < 3) : g_lay (561 + k) = (1, (320, [])) := by
  have q : ∀ k < 3, g_lay (561 + k) = (1, (320, [])) := by decide +kernel
  exact q k hk
theorem g_gn {A : Type} {p : Prop} [Decidable p] {x : Option A} {z : A} (h : (if p then none else x) = some z) : ¬ p ∧ x = some z := by
  split at h
  · cases h
  · rename_i hp
    exact ⟨hp, h⟩
theorem g_div {x y : Int32} (h : ¬ y = 0) : m_bin 3 x y = some (x / y) := if_neg h
theorem g_rem {x y : Int32} (h : ¬ y = 0) : m_bin 4 x y = some (x - x / y * y) := if_neg h
def g_rL (z : Int32 × (g_S × Nat)) : m_R := (.inl (some (.int z.1)), g_M z.2.1 z.2.2)
def g_wd {B : Type} (x : Option ((Int32 × Nat) × g_S)) (k : Int32 → Nat → g_S → Option B) : Option B := x.bind fun w => k w.1.1 w.1.2 w.2
theorem g_wdp {B : Type} {x : Option ((Int32 × Nat) × g_S)} {k : Int32 → Nat → g_S → Option B} {z : B} (h : g_wd x k = some z) : ∃ v n s1, x = some ((v, n), s1) ∧ k v n s1 = some z := by
  obtain ⟨w, hw, h⟩ := g_bind h
  exact ⟨w.1.1, w.1.2, w.2, hw, h⟩
theorem g_l0 : Int64.ofNat 0 = Int32.toInt64 0 := rfl
theorem g_l1 : Int64.ofNat 1 = Int32.toInt64 1 := rfl
theorem g_lald {X : m_X} {d m i pc : Nat} {ls : m_L} {st : List Value} {s : g_S} {e : Nat} {r : m_R} {n : Int32} {l : List (Int32 × Nat)} {a b : Nat} (hq : (m_md m).1[i]? = some (pc, (14, (a, (b, (n, l)))))) (k : n_R X d m (i + 1) ls (.long (s 564 0).toInt64 :: st) (g_M s e) r) : n_R X d m i ls (.int 0 :: .ref 564 :: st) (g_M s e) r := by
  have hl : g_lay 564 = (3, (1, [])) := by decide +kernel
  exact n_lald hq (g_arl hl) (g_lta hl) rfl k
theorem g_last {X : m_X} {d m i pc : Nat} {ls : m_L} {st : List Value} {s : g_S} {e : Nat} {r : m_R} {n : Int32} {l : List (Int32 × Nat)} {a b : Nat} {v : Int64} {w : Int32} (hq : (m_md m).1[i]? = some (pc, (15, (a, (b, (n, l)))))) (hw : v = w.toInt64) {s1 : g_S} (hs1 : s1 = g_w s 564 0 w) (k : n_R X d m (i + 1) ls st (g_M s1 e) r) : n_R X d m i ls (.long v :: .int 0 :: .ref 564 :: st) (g_M s e) r := by
  subst hs1
  have hl : g_lay 564 = (3, (1, [])) := by decide +kernel
  have hM : (g_M s e).1 564 = .inl (2, (1, .inr (.inl (fun j => (s 564 j).toInt64)))) := g_arl hl
  refine n_last hq hM (g_lta hl) rfl ?_
  rw [g_put (f := upd (s 564) 0 w)]
  · exact k
  · rw [hl]
    have hf : vp_updL (fun j => (s 564 j).toInt64) (Int32.toNatClampNeg 0) v = fun j => (upd (s 564) 0 w j).toInt64 := by
      funext j
      unfold vp_updL upd
      rw [hw]
      show (if j = 0 then w.toInt64 else (s 564 j).toInt64) = (if j = 0 then w else s 564 j).toInt64
      split
      · rfl
      · rfl
    rw [hf]
    rfl
