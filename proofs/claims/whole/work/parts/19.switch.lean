/-! A SWITCH goes where our list says. -/
theorem w_out {x : Int32} {d : Nat} : ∀ l : List (Int32 × Nat), (∀ q ∈ l, x ≠ q.1) → m_sw d x l = d
  | [], _ => rfl
  | q :: l, h => by
    rw [m_sw, if_neg (h q List.mem_cons_self)]
    exact w_out l fun z hz => h z (List.mem_cons_of_mem _ hz)
theorem w_in {x : Int32} {d : Nat} : ∀ (l : List (Int32 × Nat)) (a : Int), (∀ (j : Nat) (q : Int32 × Nat), l[j]? = some q → q.1.toInt = a + (j : Int)) → ∀ (j : Nat) (q : Int32 × Nat), l[j]? = some q → x.toInt = a + (j : Int) → m_sw d x l = q.2
  | [], _, _, j, q, hq, _ => by simp at hq
  | z :: l, a, h, 0, q, hq, hx => by
    simp only [List.getElem?_cons_zero, Option.some.injEq] at hq
    subst hq
    have h0 := h 0 z rfl
    have e : x = z.1 := Int32.toInt_inj.mp (by rw [hx, h0])
    rw [m_sw, if_pos e]
  | z :: l, a, h, j + 1, q, hq, hx => by
    have h0 := h 0 z rfl
    have e : ¬ x = z.1 := fun e => by
      rw [e, h0] at hx
      omega
    rw [m_sw, if_neg e]
    refine w_in l (a + 1) (fun j' q' hq' => ?_) j q (by simpa using hq) (by omega)
    have := h (j' + 1) q' (by simpa using hq')
    omega
theorem w_look {x : Int32} {d : Nat} (pc : Nat) (L : List (Nat × m_I)) : ∀ l : List (Int32 × Nat), Op.lookupswitch.offset (l.map fun q => (q.1.toInt, (m_pc L q.2 : Int) - pc)) ((m_pc L d : Int) - pc) x.toInt = (m_pc L (m_sw d x l) : Int) - pc
  | [] => rfl
  | q :: l => by
    rw [List.map_cons, Op.lookupswitch.offset_cons, m_sw]
    by_cases e : x = q.1
    · rw [if_pos e, if_pos (by rw [e])]
    · rw [if_neg e, if_neg (fun z => e (Int32.toInt_inj.mp z.symm))]
      exact w_look pc L l
theorem w_tab {n : Int32} {l : List (Int32 × Nat)} (h : l.map (fun q => q.1) = (List.range l.length).map (fun j => n + Int32.ofNat j)) (h0 : 0 ≤ n) (hb : n.toInt + (l.length : Int) < 1000) : ∀ (j : Nat) (q : Int32 × Nat), l[j]? = some q → q.1.toInt = n.toInt + (j : Int) := by
  intro j q hq
  have hj : j < l.length := (List.getElem?_eq_some_iff.mp hq).1
  have h1 : (l.map (fun q => q.1))[j]? = some q.1 := by rw [List.getElem?_map, hq]; rfl
  rw [h, List.getElem?_map, List.getElem?_range hj] at h1
  simp only [Option.map_some, Option.some.injEq] at h1
  have h2 : (0 : Int) ≤ n.toInt := by
    have := Int32.le_iff_toInt_le.mp h0
    simpa using this
  rw [← h1, Int32.toInt_add, Int32.toInt_ofNat_of_lt (by omega)]
  exact Int.bmod_eq_of_le (by omega) (by omega)
section J9
variable {p : Program} {l : Launch} {e : Env} {R : Room} {s : State} {mid : MethodId} {args : Array Value} {below : List Frame} {meth : Method} {c : Code} {Q : Nat → Nat → State → Prop}
variable {G : j_G} {nL c0 s0 i own mx : Nat} {cd : ByteArray} {rt : Option FieldType} {ini : Bool} {hh : List (Nat × Nat × Nat × Nat)} {L : List (Nat × m_I)} {ls : m_L} {st : List Value} {M : m_M}
theorem i_switch (F : j_F p l s mid args meth c own cd mx rt ini hh) {a b : Nat} {n x : Int32} {t : List (Int32 × Nat)} (hd : (a = 0 ∧ m_dc cd (m_pc L i) (.tableswitch ((m_pc L b : Int) - m_pc L i) n.toInt (n.toInt + (t.length : Int) - 1) (t.map (fun q => (m_pc L q.2 : Int) - m_pc L i)).toArray) (m_pc L (i + 1) - m_pc L i) ∧ t.map (fun q => q.1) = (List.range t.length).map (fun j => n + Int32.ofNat j) ∧ 0 ≤ n ∧ n.toInt + (t.length : Int) < 1000) ∨
        (a = 1 ∧ m_dc cd (m_pc L i) (.lookupswitch ((m_pc L b : Int) - m_pc L i) (t.map (fun q => (q.1.toInt, (m_pc L q.2 : Int) - m_pc L i))).toArray) (m_pc L (i + 1) - m_pc L i) ∧ ((t.map (fun q => (q.1.toInt, (m_pc L q.2 : Int) - m_pc L i))).zip ((t.map (fun q => (q.1.toInt, (m_pc L q.2 : Int) - m_pc L i))).drop 1)).all (fun (a, next) => a.1 < next.1) = true))
    (k : j_P p l e R s mid args below meth c Q G nL c0 s0 L (m_sw b x t) ls st M) : j_P p l e R s mid args below meth c Q G nL c0 s0 L i ls (.int x :: st) M := by
  intro JL H locs cells slots hI hL
  have kk := k JL H locs cells slots hI hL
  obtain ⟨hx, hb, -⟩ := F
  rcases hd with ⟨-, h1, h2, h3, h4⟩ | ⟨-, h1, h2⟩
  · have ht := w_tab h2 h3 h4
    by_cases ho : x.toInt < n.toInt ∨ n.toInt + (t.length : Int) - 1 < x.toInt
    · have e1 : m_sw b x t = b := w_out t fun q hq e => by
        obtain ⟨j, hj⟩ := List.getElem?_of_mem hq
        have hl : j < t.length := (List.getElem?_eq_some_iff.mp hj).1
        have := ht j q hj
        rw [e] at ho
        omega
      rw [e1] at kk
      exact lv_tableOut hx hb h1 ho (by omega) kk
    · have hl : (x.toInt - n.toInt).toNat < t.length := by omega
      have hq : t[(x.toInt - n.toInt).toNat]? = some t[(x.toInt - n.toInt).toNat] := List.getElem?_eq_getElem hl
      have e1 : m_sw b x t = (t[(x.toInt - n.toInt).toNat]).2 := w_in t n.toInt ht _ _ hq (by omega)
      rw [e1] at kk
      exact lv_tableIn (off := (m_pc L (t[(x.toInt - n.toInt).toNat]).2 : Int) - m_pc L i) hx hb h1 (by omega) (by omega) (by rw [List.getElem?_toArray, List.getElem?_map, hq]; rfl) (by omega) kk
  · exact lv_lookup hx hb h1 h2 (w_look (m_pc L i) L t) (by omega) kk
end J9
