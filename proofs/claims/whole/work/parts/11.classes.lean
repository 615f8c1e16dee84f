/-! WHAT THE TABLES SAY of the classes; written by a program (wip/whole/gen_11.py) -/
def q_lay0 : List Nat := [1225, 1227, 1229, 1231, 1233, 1235, 1237, 1239, 2001]
set_option maxRecDepth 100000 in
theorem q_in0 : ∀ w ∈ wsX00, w ∈ m_ws := by
  have h : ((List.range 9).all fun k => m_pl (q_lay0.getD k 0) (u_lay RX0 TX0 k)) = true := by decide +kernel
  intro w hw
  obtain ⟨k, hk, rfl⟩ := List.mem_map.mp hw
  exact m_pl_in (List.all_eq_true.mp h k hk)
def q_lay1 : List Nat := [2024, 2026, 2028, 2030, 2032, 2034, 2036, 2038]
set_option maxRecDepth 100000 in
theorem q_in1 : ∀ w ∈ wsX10, w ∈ m_ws := by
  have h : ((List.range 8).all fun k => m_pl (q_lay1.getD k 0) (u_lay RX1 TX1 k)) = true := by decide +kernel
  intro w hw
  obtain ⟨k, hk, rfl⟩ := List.mem_map.mp hw
  exact m_pl_in (List.all_eq_true.mp h k hk)
def q_lay2 : List Nat := [1130, 1132, 1134]
set_option maxRecDepth 100000 in
theorem q_in2 : ∀ w ∈ wsX20, w ∈ m_ws := by
  have h : ((List.range 3).all fun k => m_pl (q_lay2.getD k 0) (u_lay RX2 TX2 k)) = true := by decide +kernel
  intro w hw
  obtain ⟨k, hk, rfl⟩ := List.mem_map.mp hw
  exact m_pl_in (List.all_eq_true.mp h k hk)
def q_lay3 : List Nat := [1168, 1170, 1172, 1174, 1176, 1178, 1180, 1182]
set_option maxRecDepth 100000 in
theorem q_in3 : ∀ w ∈ wsX30, w ∈ m_ws := by
  have h : ((List.range 8).all fun k => m_pl (q_lay3.getD k 0) (u_lay RX3 TX3 k)) = true := by decide +kernel
  intro w hw
  obtain ⟨k, hk, rfl⟩ := List.mem_map.mp hw
  exact m_pl_in (List.all_eq_true.mp h k hk)
def q_lay4 : List Nat := [1048, 1050, 1052, 1054, 1056, 1058, 1060, 1062, 1064, 1066]
set_option maxRecDepth 100000 in
theorem q_in4 : ∀ w ∈ wsX40, w ∈ m_ws := by
  have h : ((List.range 10).all fun k => m_pl (q_lay4.getD k 0) (u_lay RX4 TX4 k)) = true := by decide +kernel
  intro w hw
  obtain ⟨k, hk, rfl⟩ := List.mem_map.mp hw
  exact m_pl_in (List.all_eq_true.mp h k hk)
def q_lay5 : List Nat := [1089, 1091, 1093, 1095, 1097, 1099, 1101, 1103, 1105, 1107]
set_option maxRecDepth 100000 in
theorem q_in5 : ∀ w ∈ wsX50, w ∈ m_ws := by
  have h : ((List.range 10).all fun k => m_pl (q_lay5.getD k 0) (u_lay RX5 TX5 k)) = true := by decide +kernel
  intro w hw
  obtain ⟨k, hk, rfl⟩ := List.mem_map.mp hw
  exact m_pl_in (List.all_eq_true.mp h k hk)
def q_lay6 : List Nat := [1197, 1199, 1201]
set_option maxRecDepth 100000 in
theorem q_in6 : ∀ w ∈ wsX60, w ∈ m_ws := by
  have h : ((List.range 3).all fun k => m_pl (q_lay6.getD k 0) (u_lay RX6 TX6 k)) = true := by decide +kernel
  intro w hw
  obtain ⟨k, hk, rfl⟩ := List.mem_map.mp hw
  exact m_pl_in (List.all_eq_true.mp h k hk)
def q_lay7 : List Nat := [2056, 2058, 2060, 2062, 2064, 2066, 2068, 2070, 2072, 2074, 2076, 2078, 2080, 2082]
set_option maxRecDepth 100000 in
theorem q_in7 : ∀ w ∈ wsX70, w ∈ m_ws := by
  have h : ((List.range 14).all fun k => m_pl (q_lay7.getD k 0) (u_lay RX7 TX7 k)) = true := by decide +kernel
  intro w hw
  obtain ⟨k, hk, rfl⟩ := List.mem_map.mp hw
  exact m_pl_in (List.all_eq_true.mp h k hk)
def q_lay8 : List Nat := [5170, 5172, 5174, 5176, 5178, 5180, 5182, 5184, 5186, 5188, 5190, 5192, 5194, 5196, 5198, 5200, 5202, 5204, 5206, 5208, 5210, 5212, 5214, 5216, 5218, 5220, 5222, 5224, 5226, 5228, 5230, 5232, 5234, 5236, 5238, 6000, 6002, 6004, 6006, 6008, 6010, 6012, 6014, 6016, 6018, 6020, 6022, 6024, 6026, 6028, 6030, 6032, 6034, 6036]
set_option maxRecDepth 100000 in
theorem q_in8 : ∀ w ∈ wsX80, w ∈ m_ws := by
  have h : ((List.range 54).all fun k => m_pl (q_lay8.getD k 0) (u_lay RX8 TX8 k)) = true := by decide +kernel
  intro w hw
  obtain ⟨k, hk, rfl⟩ := List.mem_map.mp hw
  exact m_pl_in (List.all_eq_true.mp h k hk)
noncomputable def m_tyf (c : Nat) : Nat → FieldType := match c with
  | 0 => tyX0
  | 1 => tyX1
  | 2 => tyX2
  | 3 => tyX3
  | 4 => tyX4
  | 5 => tyX5
  | 6 => tyX6
  | 7 => tyX7
  | _ => tyX8
theorem q_vc {c : Nat} (h : c < 9) : vwCl[c]? = some (m_vc c) := by
  match c, h with
  | 0, _ => exact rfl
  | 1, _ => exact rfl
  | 2, _ => exact rfl
  | 3, _ => exact rfl
  | 4, _ => exact rfl
  | 5, _ => exact rfl
  | 6, _ => exact rfl
  | 7, _ => exact rfl
  | 8, _ => exact rfl
  | n + 9, h => exact absurd h (by omega)
theorem q_nm {c : Nat} (h : c < 9) : (m_vc c).1 = m_cn c := by
  match c, h with
  | 0, _ => exact rfl
  | 1, _ => exact rfl
  | 2, _ => exact rfl
  | 3, _ => exact rfl
  | 4, _ => exact rfl
  | 5, _ => exact rfl
  | 6, _ => exact rfl
  | 7, _ => exact rfl
  | 8, _ => exact rfl
  | n + 9, h => exact absurd h (by omega)
theorem q_in {c : Nat} (h : c < 9) : ∀ w ∈ u_ws (m_vc c).1 (m_vc c).2.1 (m_vc c).2.2, w ∈ m_ws := by
  match c, h with
  | 0, _ => exact q_in0
  | 1, _ => exact q_in1
  | 2, _ => exact q_in2
  | 3, _ => exact q_in3
  | 4, _ => exact q_in4
  | 5, _ => exact q_in5
  | 6, _ => exact q_in6
  | 7, _ => exact q_in7
  | 8, _ => exact q_in8
  | n + 9, h => exact absurd h (by omega)
theorem q_ty {c : Nat} (h : c < 9) : ∀ k, k < (m_vc c).2.2 → parseFieldDescriptor ((m_vc c).2.1 k).2.2.1 = some (m_tyf c k) := by
  match c, h with
  | 0, _ => exact tyX0_ok
  | 1, _ => exact tyX1_ok
  | 2, _ => exact tyX2_ok
  | 3, _ => exact tyX3_ok
  | 4, _ => exact tyX4_ok
  | 5, _ => exact tyX5_ok
  | 6, _ => exact tyX6_ok
  | 7, _ => exact tyX7_ok
  | 8, _ => exact tyX8_ok
  | n + 9, h => exact absurd h (by omega)
theorem q_nn {c : Nat} (h : c < 9) : ∀ a, a < (m_vc c).2.2 → ∀ b, b < (m_vc c).2.2 → a ≠ b → ((m_vc c).2.1 a).2.1 ≠ ((m_vc c).2.1 b).2.1 := by
  match c, h with
  | 0, _ => exact nmX0
  | 1, _ => exact nmX1
  | 2, _ => exact nmX2
  | 3, _ => exact nmX3
  | 4, _ => exact nmX4
  | 5, _ => exact nmX5
  | 6, _ => exact nmX6
  | 7, _ => exact nmX7
  | 8, _ => exact nmX8
  | n + 9, h => exact absurd h (by omega)
theorem q_dc {c : Nat} (h : c < 9) : ∀ k, k < (m_vc c).2.2 → ((m_vc c).2.1 k).1 = m_cn c := by
  match c, h with
  | 0, _ => exact by decide +kernel
  | 1, _ => exact by decide +kernel
  | 2, _ => exact by decide +kernel
  | 3, _ => exact by decide +kernel
  | 4, _ => exact by decide +kernel
  | 5, _ => exact by decide +kernel
  | 6, _ => exact by decide +kernel
  | 7, _ => exact by decide +kernel
  | 8, _ => exact by decide +kernel
  | n + 9, h => exact absurd h (by omega)
set_option maxRecDepth 100000 in
theorem q_fl0 : (m_fl.all fun q => decide (q.2.2.1 < 9) && decide (q.2.2.2 < (m_vc q.2.2.1).2.2)) = true := by decide +kernel
theorem q_fl {q : Nat × (Nat × (Nat × Nat))} (h : q ∈ m_fl) : q.2.2.1 < 9 ∧ q.2.2.2 < (m_vc q.2.2.1).2.2 := by
  have := List.all_eq_true.mp q_fl0 q h
  simpa using this
def q_rf (t : FieldType) : Bool := match t with
  | .object _ => true
  | .array _ => true
  | _ => false
set_option maxRecDepth 100000 in
theorem q_kd0 : ((List.range 9).all fun c => (List.range (m_vc c).2.2).all fun k => decide ((m_kd c k = 0 ∧ m_tyf c k = .int) ∨ (m_kd c k = 1 ∧ m_tyf c k = .boolean) ∨ (m_kd c k = 2 ∧ q_rf (m_tyf c k) = true))) = true := by decide +kernel
theorem q_kd {c k : Nat} (h : c < 9) (hk : k < (m_vc c).2.2) : (m_kd c k = 0 ∧ m_tyf c k = .int) ∨ (m_kd c k = 1 ∧ m_tyf c k = .boolean) ∨ (m_kd c k = 2 ∧ q_rf (m_tyf c k) = true) := by
  have h1 := List.all_eq_true.mp q_kd0 c (List.mem_range.mpr h)
  have h2 := List.all_eq_true.mp h1 k (List.mem_range.mpr hk)
  exact of_decide_eq_true h2
/-- what may be in a field, narrowed to its type, is as it was -/
theorem q_fit {c k : Nat} (h : c < 9) (hk : k < (m_vc c).2.2) {v : Value} {G : j_G} (hf : m_fit (m_kd c k) v = true) : narrow (m_tyf c k) (j_v G v) = j_v G v ∧ fits (m_tyf c k) (j_v G v) = true := by
  have hb : ∀ x : Int32, m_isb x = true → narrow .boolean (.int x) = .int x ∧ fits .boolean (.int x) = true := by
    intro x hx
    simp only [m_isb, Bool.or_eq_true, beq_iff_eq] at hx
    rcases hx with rfl | rfl <;> exact ⟨rfl, rfl⟩
  rcases q_kd h hk with ⟨h1, h2⟩ | ⟨h1, h2⟩ | ⟨h1, h2⟩
  · rw [h1] at hf
    rw [h2]
    cases v <;> simp_all [m_fit, j_v] <;> exact ⟨rfl, rfl⟩
  · rw [h1] at hf
    rw [h2]
    cases v with
    | int x => exact hb x (by simpa [m_fit] using hf)
    | _ => simp [m_fit] at hf
  · rw [h1] at hf
    generalize m_tyf c k = t at h2 ⊢
    cases v with
    | int x => simp [m_fit] at hf
    | ref a => cases t <;> simp_all [q_rf] <;> exact ⟨rfl, rfl⟩
    | null => cases t <;> simp_all [q_rf] <;> exact ⟨rfl, rfl⟩
    | _ => simp [m_fit] at hf
