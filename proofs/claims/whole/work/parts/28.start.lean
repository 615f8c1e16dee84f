/-! THE START: out of what the statement gives of the beginning, the law's own run. -/
def m_M0 : m_M := (fun _ => .inr (0, []), (0, (0, 0)))
def b_ix : List Nat := [61, 67, 108, 82, 116, 100, 135, 143, 145, 168, 173]
def b_tm (k : Nat) : Term := .string (m_cn 5) (b_ix.getD k 0)
def b_fv (k : Nat) : Term := .field (b_tm k) "java/lang/String" "value" "[B"
def b_fl : List Cond := flatC (Jvm.Cond.and given_1 narrow_1)
def b_bs : List Nat := [92, 133, 144, 161, 271, 319, 366, 349, 333, 199, 218]
def b_nt : List (List Nat) := [[0, 143, 159, 196, 313, 326, 373, 357, 341, 214, 266], [143, 0, 160, 197, 314, 327, 374, 358, 342, 215, 267], [159, 160, 0, 198, 315, 328, 375, 359, 343, 216, 268], [196, 197, 198, 0, 316, 329, 376, 360, 344, 217, 269], [313, 314, 315, 316, 0, 332, 379, 363, 347, 317, 318], [326, 327, 328, 329, 332, 0, 380, 364, 348, 330, 331], [373, 374, 375, 376, 379, 380, 0, 382, 381, 377, 378], [357, 358, 359, 360, 363, 364, 382, 0, 365, 361, 362], [341, 342, 343, 344, 347, 348, 381, 365, 0, 345, 346], [214, 215, 216, 217, 317, 330, 377, 361, 345, 0, 270], [266, 267, 268, 269, 318, 331, 378, 362, 346, 270, 0]]
def b_g (k : Nat) (w : Cond) : Bool := decide (b_fl[k]? = some w)
theorem b_gi {k : Nat} {w : Cond} (h : b_g k w = true) : w ∈ b_fl := List.mem_of_getElem? (of_decide_eq_true h)
def b_ck (i : Nat) : Bool := decide (m_tlen.getD i 0 < 2 ^ 31) && b_g (b_bs.getD i 0) (.exactly (b_tm i) "java/lang/String") && b_g (b_bs.getD i 0 + 1) (.eq (.field (b_tm i) "java/lang/String" "coder" "B") (.int 0)) && b_g (b_bs.getD i 0 + 2) (.arrayOf (b_fv i) .byte) && b_g (b_bs.getD i 0 + 3) (.eq (.length (b_fv i)) (.int (Int32.ofNat (m_tlen.getD i 0)))) &&
  ((List.range (m_tlen.getD i 0)).all fun j => b_g (b_bs.getD i 0 + 4 + j) (.eq (.elem (b_fv i) (.int (Int32.ofNat j))) (.int ((m_tbyt.getD i []).getD j 0)))) &&
  ((List.range 11).all fun j => decide (i = j) || b_g ((b_nt.getD i []).getD j 0) (.not (.eq (b_tm i) (b_tm j))) || b_g ((b_nt.getD i []).getD j 0) (.not (.eq (b_tm j) (b_tm i))))
set_option maxRecDepth 100000 in
theorem b_ck0 : b_ck 0 = true := by decide +kernel
set_option maxRecDepth 100000 in
theorem b_ck1 : b_ck 1 = true := by decide +kernel
set_option maxRecDepth 100000 in
theorem b_ck2 : b_ck 2 = true := by decide +kernel
set_option maxRecDepth 100000 in
theorem b_ck3 : b_ck 3 = true := by decide +kernel
set_option maxRecDepth 100000 in
theorem b_ck4 : b_ck 4 = true := by decide +kernel
set_option maxRecDepth 100000 in
theorem b_ck5 : b_ck 5 = true := by decide +kernel
set_option maxRecDepth 100000 in
theorem b_ck6 : b_ck 6 = true := by decide +kernel
set_option maxRecDepth 100000 in
theorem b_ck7 : b_ck 7 = true := by decide +kernel
set_option maxRecDepth 100000 in
theorem b_ck8 : b_ck 8 = true := by decide +kernel
set_option maxRecDepth 100000 in
theorem b_ck9 : b_ck 9 = true := by decide +kernel
set_option maxRecDepth 100000 in
theorem b_ck10 : b_ck 10 = true := by decide +kernel
theorem b_cks : ∀ i : Nat, i < 11 → b_ck i = true
  | 0, _ => b_ck0
  | 1, _ => b_ck1
  | 2, _ => b_ck2
  | 3, _ => b_ck3
  | 4, _ => b_ck4
  | 5, _ => b_ck5
  | 6, _ => b_ck6
  | 7, _ => b_ck7
  | 8, _ => b_ck8
  | 9, _ => b_ck9
  | 10, _ => b_ck10
  | i + 11, h => absurd h (by omega)
set_option maxRecDepth 100000 in
theorem b_sl0 : (m_sl.all fun q => decide (q.1 = 5 ∧ q.2.1 = b_ix.getD q.2.2 0 ∧ q.2.2 < 11) && decide (Cond.stringRef (m_cn q.1) q.2.1 (m_txs.getD q.2.2 "") ∈ lw_tbl)) = true := by decide +kernel
set_option maxRecDepth 100000 in
theorem b_tl0 : (m_tl.all fun q => decide (Cond.stringRef (m_cn q.1) q.2.2.1 (m_msg q.2.2.1) ∈ lw_tbl) && decide (Cond.exactly (.string (m_cn q.1) q.2.2.1) "java/lang/String" ∈ b_fl)) = true := by decide +kernel
set_option maxRecDepth 100000 in
theorem b_nl0 : (m_nl.all fun q => decide (Cond.methodLinkNest (m_cn q.1) q.2.1 (m_y q.2.2) RX7 ∈ lw_tbl)) = true := by decide +kernel
def b_ws : List Cond := [.castable (m_ex 0) (m_ex 0), .castable (m_ex 1) (m_ex 1), .declares (Bundle.initS "java/lang/RuntimeException"), .declares (Bundle.initS "java/lang/Exception"), .declares (Bundle.initS Bundle.tN),
  .laysStatic Bundle.tN "UNASSIGNED_STACK" Bundle.steD, .laysStatic Bundle.tN "SUPPRESSED_SENTINEL" Bundle.listD, .initialized Bundle.tN,
  .arrayOver (.object RX4), .arrayOver (.object RX3), .arrayOver (.object RX6), .arrayOver (.object RX0), .arrayOver (.array .int), .arrayOver (.array .boolean),
  .laysStatic "java/lang/String" "COMPACT_STRINGS" "Z", .initialized "java/lang/String", .laysStatic "jdk/internal/util/Preconditions" "SIOOBE_FORMATTER" "Ljava/util/function/BiFunction;", .initialized "jdk/internal/util/Preconditions",
  .arrayClass .int, .arrayClass .boolean, .arrayClass .long]
set_option maxRecDepth 100000 in
theorem b_ws0 : (b_ws.all fun w => decide (w ∈ lw_tbl)) = true := by decide +kernel
def b_fs : List Cond := [.not (.castable (m_ex 1) (m_ex 0)), .not (.castable (m_ex 0) (m_ex 1)), .isRef (.static Bundle.tN "UNASSIGNED_STACK" Bundle.steD), .isRef (.static Bundle.tN "SUPPRESSED_SENTINEL" Bundle.listD),
  .eq (.static "java/lang/String" "COMPACT_STRINGS" "Z") (.int 1), .isRef (.static "jdk/internal/util/Preconditions" "SIOOBE_FORMATTER" "Ljava/util/function/BiFunction;")]
set_option maxRecDepth 100000 in
theorem b_fs0 : (b_fs.all fun w => decide (w ∈ b_fl)) = true := by decide +kernel
theorem b_tb {args : Array Value} {s : State} (h : ∀ w ∈ lw_tbl, w.before args s = true) {w : Cond} (n : Nat) (hn : b_ws[n]? = some w) : w.before args s = true := h w (of_decide_eq_true (List.all_eq_true.mp b_ws0 w (List.mem_of_getElem? hn)))
theorem b_ff {args : Array Value} {s : State} (h : ∀ w ∈ b_fl, w.before args s = true) {w : Cond} (n : Nat) (hn : b_fs[n]? = some w) : w.before args s = true := h w (of_decide_eq_true (List.all_eq_true.mp b_fs0 w (List.mem_of_getElem? hn)))
theorem b_E {b L : Nat} {xs : Nat → Int32} {s : State} (hts : ∀ w ∈ lw_tbl, w.before #[Value.ref b] s = true) (hfl : ∀ w ∈ b_fl, w.before #[Value.ref b] s = true) (hX : va_X b L xs s s.heap) (hbl : b < s.heap.size) :
    ∃ ad : Nat → Nat, ad 0 = b ∧ ∀ (cA : Nat → ClassId) (D : va_G), j_E (s.heap.size, (ad, (cA, (D, (L, xs))))) s := by
  have hA : ∀ a : Nat, a < s.heap.size → ¬ (fun q : Nat => s.heap.size ≤ q) a := fun a h => Nat.not_le.mpr h
  have t0 := fun i (hi : i < 11) => b_cks i hi
  simp only [b_ck, Bool.and_eq_true, decide_eq_true_eq] at t0
  obtain ⟨adK, adV, hV, hev⟩ := vk_Sof (args := #[Value.ref b]) (s := s) (N := 11) (tm := b_tm) (len := m_tlen) (byt := m_tbyt) (A := fun q => s.heap.size ≤ q) (fun i hi => (t0 i hi).1.1.1.1.1.1) (fun i hi => hfl _ (b_gi (t0 i hi).1.1.1.1.1.2)) (fun i hi => hfl _ (b_gi (t0 i hi).1.1.1.1.2)) (fun i hi => hfl _ (b_gi (t0 i hi).1.1.1.2)) (fun i hi => hfl _ (b_gi (t0 i hi).1.1.2))
    (fun i hi j hj => hfl _ (b_gi (List.all_eq_true.mp (t0 i hi).1.2 j (List.mem_range.mpr hj)))) (fun i j hi hj hij => by
      have h9 := List.all_eq_true.mp (t0 i hi).2 j (List.mem_range.mpr hj)
      simp only [Bool.or_eq_true, decide_eq_true_eq] at h9
      rcases h9 with (h9 | h9) | h9
      · exact absurd h9 hij
      · exact Or.inl (hfl _ (b_gi h9))
      · exact Or.inr (hfl _ (b_gi h9))) hA
  refine ⟨fun k => match k with
    | 0 => b
    | k + 1 => adK k, rfl, fun cA D => ?_⟩
  refine ⟨⟨hX, hbl, hbl⟩, ⟨adV, ?_⟩, fun q hq => ?_, fun q hq => ?_, ⟨va_Nw.of rfl (b_tb hts 0 rfl), va_Nw.of rfl (b_tb hts 1 rfl), va_Nc.of (b_ff hfl 0 rfl), va_Nc.of (b_ff hfl 1 rfl), fun Y hY => ?_⟩, ⟨vx_Zqof (b_tb hts 5 rfl) (b_tb hts 7 rfl) (b_ff hfl 2 rfl) hA, vx_Zqof (b_tb hts 6 rfl) (b_tb hts 7 rfl) (b_ff hfl 3 rfl) hA⟩, fun q hq => ?_, fun C hC => ?_, ⟨b_tb hts 12 rfl, b_tb hts 13 rfl⟩, va_Zof (b_tb hts 14 rfl) (b_tb hts 15 rfl) (va_eqt (b_ff hfl 4 rfl)) hA, va_Zqof (b_tb hts 16 rfl) (b_tb hts 17 rfl) (b_ff hfl 5 rfl) hA⟩
  · show vk_S 11 m_tlen m_tbyt (fun i => (fun k => match k with
      | 0 => b
      | k + 1 => adK k) (1 + i)) adV _ s s.heap
    rw [show (fun i => (fun k => match k with
      | 0 => b
      | k + 1 => adK k) (1 + i)) = adK from funext fun i => by rw [Nat.add_comm]]
    exact hV
  · have h1 := List.all_eq_true.mp b_sl0 q hq
    simp only [Bool.and_eq_true, decide_eq_true_eq] at h1
    obtain ⟨⟨h2, h3, h4⟩, h5⟩ := h1
    show vk_R (m_cn q.1) q.2.1 (m_txs.getD q.2.2 "") ((fun k => match k with
      | 0 => b
      | k + 1 => adK k) (1 + q.2.2)) s
    rw [Nat.add_comm]
    refine vk_R.of (hts _ h5) ?_
    have h6 := hev q.2.2 h4
    unfold b_tm at h6
    rw [← h3, ← h2] at h6
    exact h6
  · exact va_Nw.of rfl (hts _ (of_decide_eq_true (List.all_eq_true.mp b_nl0 q hq)))
  · rcases List.mem_cons.mp hY with rfl | hY
    · exact va_Nw.of rfl (b_tb hts 2 rfl)
    rcases List.mem_cons.mp hY with rfl | hY
    · exact va_Nw.of rfl (b_tb hts 3 rfl)
    rcases List.mem_cons.mp hY with rfl | hY
    · exact va_Nw.of rfl (b_tb hts 4 rfl)
    · cases hY
  · have h1 := List.all_eq_true.mp b_tl0 q hq
    simp only [Bool.and_eq_true, decide_eq_true_eq] at h1
    obtain ⟨a, c, cA, kA, q1, -⟩ := Cond.exactly_spec (args := #[Value.ref b]) (first := s) (o := none) (s := s) (idx := []) (hfl _ h1.2)
    exact ⟨a, vk_R.of (hts _ h1.1) q1⟩
  · rcases List.mem_cons.mp hC with rfl | hC
    · exact va_AO.of (b_tb hts 8 rfl)
    rcases List.mem_cons.mp hC with rfl | hC
    · exact va_AO.of (b_tb hts 9 rfl)
    rcases List.mem_cons.mp hC with rfl | hC
    · exact va_AO.of (b_tb hts 10 rfl)
    rcases List.mem_cons.mp hC with rfl | hC
    · exact va_AO.of (b_tb hts 11 rfl)
    · cases hC
theorem b_Kc {b : Nat} {s : State} (hts : ∀ w ∈ lw_tbl, w.before #[Value.ref b] s = true) : ∃ D : va_G, ∀ (k : Nat) (q : vw_C), vwCl[k]? = some q → u_Kn s q.1 q.2.1 q.2.2 (D.1 k) (D.2 k) := by
  have h1 : ∀ k : Nat, ∃ q : ClassId × (Nat → Nat), k < 9 → u_Kn s (m_vc k).1 (m_vc k).2.1 (m_vc k).2.2 q.1 q.2 := by
    intro k
    by_cases hk : k < 9
    · obtain ⟨c, i, h⟩ := u_known hts (fun w hw => (List.mem_filter.mp (q_in hk w hw)).1) (hts _ (List.mem_filter.mp (z_new hk).1).1)
      exact ⟨(c, i), fun _ => h⟩
    · exact ⟨(0, fun _ => 0), fun h => absurd h hk⟩
  obtain ⟨f, hf⟩ := Classical.axiomOfChoice h1
  refine ⟨(fun k => (f k).1, fun k => (f k).2), fun k q hq => ?_⟩
  by_cases hk : k < 9
  · rw [q_vc hk] at hq
    cases hq
    exact hf k hk
  · rw [List.getElem?_eq_none (by show 9 ≤ k; omega)] at hq
    cases hq
theorem b_Ka {b : Nat} {s : State} (hts : ∀ w ∈ lw_tbl, w.before #[Value.ref b] s = true) : ∃ cA : Nat → ClassId, ∀ t, t < 9 → ArrOfT s (cA t) (j_ty.getD t .int) ∧ va_RA s (cA t) (j_ty.getD t .int) := by
  have hp : ∀ ty : FieldType, (∀ C, ty ≠ .object C) → (Cond.arrayClass ty).before #[Value.ref b] s = true → ∃ c : ClassId, ArrOfT s c ty ∧ va_RA s c ty := by
    intro ty hn h
    obtain ⟨c, k, comp, h1, h2, h3⟩ := Cond.arrayClass_spec (args := #[Value.ref b]) (first := s) (o := none) (idx := []) h
    refine ⟨c, fun n z => ⟨fun q h => (by cases h), k, h2, comp, h3⟩, ?_⟩
    cases ty with
    | object C => exact absurd rfl (hn C)
    | _ => exact h1
  have ho : ∀ C : String, (Cond.arrayOver (.object C)).before #[Value.ref b] s = true → ∃ c : ClassId, ArrOfT s c (.object C) ∧ va_RA s c (.object C) := by
    intro C h
    obtain ⟨comp, c, k, h1, h2, h3, h4, h5⟩ := Cond.arrayOver_spec (args := #[Value.ref b]) (first := s) (o := none) (idx := []) h
    exact ⟨c, fun n z => ⟨fun q h => (by cases h), k, h3, comp, h4⟩, k, comp, h3, h4, h1, h5⟩
  have ha : ∀ ty : FieldType, (Cond.arrayOver (.array ty)).before #[Value.ref b] s = true → ∃ c : ClassId, ArrOfT s c (.array ty) ∧ va_RA s c (.array ty) := by
    intro ty h
    obtain ⟨comp, c, k, h1, h2, h3, h4⟩ := Cond.arrayOver_specA (args := #[Value.ref b]) (first := s) (o := none) (idx := []) h
    exact ⟨c, fun n z => ⟨fun q h => (by cases h), k, h2, comp, h3⟩, h4⟩
  have h1 : ∀ t : Nat, ∃ c : ClassId, t < 9 → ArrOfT s c (j_ty.getD t .int) ∧ va_RA s c (j_ty.getD t .int) := by
    intro t
    by_cases ht : t < 9
    · have h2 : ∃ c : ClassId, ArrOfT s c (j_ty.getD t .int) ∧ va_RA s c (j_ty.getD t .int) := by
        match t, ht with
        | 0, _ => exact hp .int (fun C h => by cases h) (b_tb hts 18 rfl)
        | 1, _ => exact hp .boolean (fun C h => by cases h) (b_tb hts 19 rfl)
        | 2, _ => exact hp .long (fun C h => by cases h) (b_tb hts 20 rfl)
        | 3, _ => exact ha .int (b_tb hts 12 rfl)
        | 4, _ => exact ha .boolean (b_tb hts 13 rfl)
        | 5, _ => exact ho RX4 (b_tb hts 8 rfl)
        | 6, _ => exact ho RX3 (b_tb hts 9 rfl)
        | 7, _ => exact ho RX6 (b_tb hts 10 rfl)
        | 8, _ => exact ho RX0 (b_tb hts 11 rfl)
      obtain ⟨c, h⟩ := h2
      exact ⟨c, fun _ => h⟩
    · exact ⟨0, fun h => absurd h ht⟩
  exact Classical.axiomOfChoice h1
/-- the law ends with true, if our machine's run of it does, within the room -/
theorem j_start {p : Program} {e : Env} {s : State} {m : MethodId} {below : List Frame} {meth : Method} {c : Code} (l : Launch) (hflags : l.flags = flags0) {b L n : Nat} {xs : Nat → Int32} {M' : m_M} (C0 : lw_At p s m meth c b L xs)
    (hrun : m_run (m_prog (L, xs)) n 2048 251 0 (m_lin 7 [.ref 1000000]) [] m_M0 = some (.inl (some (.int 1)), M')) (hc : M'.2.2.1 ≤ 601024) (hs : M'.2.2.2 ≤ 7293034) :
    W p l e room_1 s m #[Value.ref b] below meth c s.heap [] 0 0 (lw_Z below #[Value.ref b] s) (entryFrame m ([Value.ref b] : List Value).toArray 7) := by
  obtain ⟨hx, hb, hr, hml, hown, hts, hX, hbl, hlocks, hgv⟩ := C0
  have hl : l.stackTraces = false := by unfold Launch.stackTraces; rw [hflags]; decide
  have hfl : ∀ w ∈ b_fl, w.before #[Value.ref b] s = true := flat_of_before _ hgv
  obtain ⟨ad, had, hE⟩ := b_E hts hfl hX hbl
  obtain ⟨D, hD⟩ := b_Kc hts
  obtain ⟨cA, hcA⟩ := b_Ka hts
  have E := hE cA D
  obtain ⟨G, hG⟩ : ∃ G : j_G, G = (s.heap.size, (ad, (cA, (D, (L, xs))))) := ⟨_, rfl⟩
  rw [← hG] at E
  have K : j_K G s := by
    rw [hG]
    refine ⟨hD, fun k q hq => ?_⟩
    have hk : k < 9 := by
      have := (List.getElem?_eq_some_iff.mp hq).1
      simpa [j_tys] using this
    rw [j_ty_at _ hk] at hq
    cases hq
    exact hcA k hk
  obtain ⟨f1, f2, f3⟩ := mf_all (y := 251) (by decide)
  obtain ⟨g1, g2, g3, g4, g5⟩ := mg_all (y := 251) (by decide)
  have h0 : m_hh 251 = [] := rfl
  have T : j_T p l room_1 s m #[Value.ref b] meth c G (m_ow 251) (m_cd 251) (m_mx 251) (m_rt 251) (m_ini 251) (m_hh 251) 0 0 2048 (.inl (some (.int 1)), M') := by
    refine ⟨⟨hx, hb, hml, hown, fun w hw => hts w (List.mem_filter.mp hw).1, hr, hlocks, Or.inr ⟨rfl, rfl⟩, fun h => (by cases h), hl⟩, K, E, ⟨by rw [hG]; exact Nat.le_refl _, by rw [hG]; exact Nat.le_refl _⟩, ⟨Nat.le_refl _, by decide⟩, ⟨by show M'.2.2.1 ≤ 0 + 601024; omega, by show M'.2.2.2 ≤ 0 + 7293034; omega⟩, Or.inl h0, Or.inr ⟨_, rfl⟩⟩
  have P := j_sound l hl (L, xs) n p e room_1 s m #[Value.ref b] below meth c G 0 0 2048 251 0 (m_lin 7 [.ref 1000000]) [] m_M0 (.inl (some (.int 1)), M') (by decide) (by rw [hG]) T hrun
  have e1 : j_v G (.ref 1000000) = .ref b := by
    show Value.ref (j_ad G 1000000) = _
    rw [j_ad_scr, hG]
    exact congrArg Value.ref had
  have hen := lv_entry (([.ref 1000000] : List Value).map (j_v G)) (n := 7) (by rw [j_sl_len _ (by simp [m_cat1])]; decide)
  have KK := P _ s.heap [] 0 0 ⟨fun k q hq => by simp [j_w, m_M0] at hq, va_S.rf, by decide, rfl, rfl⟩ (j_entry (As := [.ref 1000000]) (by simp [m_cat1]) (by decide) hen)
  rw [g5, List.map_cons, e1] at KK
  rw [lg_entry_eq]
  intro T1 hT1 X1
  obtain ⟨t, a1, o, b1, b2, b3⟩ := KK T1 hT1 X1
  refine ⟨t, a1, o, b1, b2, ?_⟩
  rcases b3 with ⟨⟨⟨v, hv, ho⟩, -, -, -⟩, Lc, ⟨w1, w2, w3⟩, w4⟩ | ⟨q, -, E9, ce, Lc, ⟨⟨x, -, hx9, -⟩, -⟩, -⟩
  · cases hv
    refine ⟨ho, w1, w2, w3.weaken (fun y hy hlt => ?_) (by show M'.2.2.1 - 0 ≤ _; omega) (by show M'.2.2.2 - 0 ≤ _; omega)⟩
    have := w4 y hy
    rw [hG] at this
    exact absurd hlt (Nat.not_lt.mpr this)
  · cases hx9
