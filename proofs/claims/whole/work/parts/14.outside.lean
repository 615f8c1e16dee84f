/-! WHAT LIES OUTSIDE the cells: the script, the texts, what the tables say that can't be carried as a method's words. -/
def m_txs : List String := ["free paid lent hired pledge work any", "mixed", "parts last", "answers swears owes lets twice", "worn hurt died lost stolen forced all", "if", "or", "and", "not", "least most", "fault there use late passed term value days"]
def m_tlen : List Nat := m_text.map List.length
def m_tbyt : List (List Int32) := m_text.map fun l => l.map nI
def m_ex (x : Nat) : String := match x with
  | 0 => "java/lang/IllegalArgumentException"
  | _ => "java/util/NoSuchElementException"
def m_msg (i : Nat) : String := if i = 236 then "no such QUESTION" else if i = 296 then "none such" else "no such HAND"
def y_AOA (t : FieldType) (U : State) : Prop := (Jvm.Cond.arrayOver t).before #[] U = true
theorem y_AOA.moved {t : FieldType} {u U : State} (hvm : u.vm.Alike U.vm) (h : y_AOA t u) : y_AOA t U := Jvm.Cond.overAtom_setVm (args := #[]) hvm (.arrayOver t) rfl h
theorem y_AOA.use {t : FieldType} {A : Array Value} {U : State} (h : y_AOA t U) : (Jvm.Cond.arrayOver t).before A U = true := h
def j_E (G : j_G) (s : State) : Prop :=
  (va_X (G.2.1 0) G.2.2.2.2.1 G.2.2.2.2.2 s s.heap ∧ G.2.1 0 < s.heap.size ∧ G.2.1 0 < G.1) ∧
  (∃ adV : Nat → Nat, vk_S 11 m_tlen m_tbyt (fun i => G.2.1 (1 + i)) adV (j_A G) s s.heap) ∧
  (∀ q ∈ m_sl, vk_R (m_cn q.1) q.2.1 (m_txs.getD q.2.2 "") (G.2.1 (1 + q.2.2)) s) ∧
  (∀ q ∈ m_nl, va_Nw (.methodLinkNest (m_cn q.1) q.2.1 (m_y q.2.2) RX7) s) ∧
  (va_Nw (.castable (m_ex 0) (m_ex 0)) s ∧ va_Nw (.castable (m_ex 1) (m_ex 1)) s ∧ va_Nc (m_ex 1) (m_ex 0) s ∧ va_Nc (m_ex 0) (m_ex 1) s ∧ ∀ Y ∈ ["java/lang/RuntimeException", "java/lang/Exception", Bundle.tN], va_Nw (.declares (Bundle.initS Y)) s) ∧
  (vx_Zq Bundle.tN "UNASSIGNED_STACK" Bundle.steD (j_A G) s s.heap ∧ vx_Zq Bundle.tN "SUPPRESSED_SENTINEL" Bundle.listD (j_A G) s s.heap) ∧
  (∀ q ∈ m_tl, ∃ sa : Nat, vk_R (m_cn q.1) q.2.2.1 (m_msg q.2.2.1) sa s) ∧
  (∀ C ∈ [RX4, RX3, RX6, RX0], va_AO C s) ∧
  (y_AOA (.array .int) s ∧ y_AOA (.array .boolean) s) ∧
  (va_Z "java/lang/String" "COMPACT_STRINGS" "Z" (.int 1) (j_A G) s s.heap ∧ va_Zq "jdk/internal/util/Preconditions" "SIOOBE_FORMATTER" "Ljava/util/function/BiFunction;" (j_A G) s s.heap)
theorem j_E.move {G : j_G} {s U : State} (h : j_E G s) (hW : s.WarmedH U.vm) (hz : s.heap.size ≤ U.heap.size) (hq : ∀ a : Nat, a < s.heap.size → ¬ j_A G a → U.heap[a]? = s.heap[a]?) : j_E G U := by
  obtain ⟨⟨h1, h2, h3⟩, ⟨adV, h4⟩, h5, h6, ⟨h7, h8, h9, h9', h9d⟩, ⟨h10, h11⟩, h12, h13, ⟨h14, h15⟩, h16, h17⟩ := h
  refine ⟨⟨(h1.moved hW.alike).kept (hq _ h2 (Nat.not_le.mpr h3)), Nat.lt_of_lt_of_le h2 hz, h3⟩, ⟨adV, (h4.moved hW.alike).kept hq⟩, fun q hq => (h5 q hq).warm hW, fun q hq => (h6 q hq).warmM hW, ⟨h7.warmC hW, h8.warmC hW, h9.moved hW.alike, h9'.moved hW.alike, fun Y hY => (h9d Y hY).warmD hW⟩, ⟨(h10.moved hW.alike).kept hq, (h11.moved hW.alike).kept hq⟩, fun q hq => ?_, fun C hC => (h13 C hC).moved hW.alike, ⟨h14.moved hW.alike, h15.moved hW.alike⟩, (va_Z.moved hW.alike h16).kept hq, (va_Zq.moved hW.alike h17).kept hq⟩
  obtain ⟨sa, h⟩ := h12 q hq
  exact ⟨sa, h.warm hW⟩
