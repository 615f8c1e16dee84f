/-! INSTRUCTIONS that read and write cells. -/
section J2
variable {p : Program} {l : Launch} {e : Env} {R : Room} {s : State} {mid : MethodId} {args : Array Value} {below : List Frame} {meth : Method} {c : Code} {Q : Nat → Nat → State → Prop}
variable {G : j_G} {nL c0 s0 i own mx : Nat} {cd : ByteArray} {rt : Option FieldType} {ini : Bool} {hh : List (Nat × Nat × Nat × Nat)} {L : List (Nat × m_I)} {ls : m_L} {st : List Value} {M : m_M}
/-- the classes and array classes are as the tables have them -/
def j_K (G : j_G) (s : State) : Prop := va_K G.2.2.2.1 vwCl (j_tys G) s
theorem j_at {H : Heap} {locs : List Loc} {cells slots r : Nat} (hI : j_I G s M c0 s0 H locs cells slots) (hr : r < M.2.1) : j_ad G r = G.1 + r := j_ad_lt (Nat.lt_of_lt_of_le hr hI.2.2.1)
theorem j_I.put {H H1 : Heap} {locs locs1 : List Loc} {cells slots r : Nat} {x : m_C} (hI : j_I G s M c0 s0 H locs cells slots) (hr : r < M.2.1) (hP : va_P G.2.2.2.1 vwCl ((j_w G M).set r (G.1 + r, j_c G x)) H1) (hS : va_S (j_A G) s.heap H1 locs1) : j_I G s (m_put M r x) c0 s0 H1 locs1 cells slots := by
  obtain ⟨h1, h2, h3, h5, h6⟩ := hI
  rw [j_set hr] at hP
  exact ⟨hP, hS, h3, h5, h6⟩
theorem i_getf (F : j_F p l s mid args meth c own cd mx rt ini hh) (K : j_K G s) {ci kf ix r : Nat} {fs : List Value} {v : Value} (hd : m_d1 cd L (m_pc L i) i (.getfield ix) 3) (hf : (own, (ix, (ci, kf))) ∈ m_fl) (hr : r < M.2.1) (hM : M.1 r = .inr (ci, fs)) (hv : fs[kf]? = some v)
    (k : j_P p l e R s mid args below meth c Q G nL c0 s0 L (i + 1) ls (v :: st) M) : j_P p l e R s mid args below meth c Q G nL c0 s0 L i ls (.ref r :: st) M := by
  intro JL H locs cells slots hI hL
  have kk := k JL H locs cells slots hI hL
  obtain ⟨hx, hb, -, ho, hw, -⟩ := F
  obtain ⟨h1, h2⟩ := hd
  rw [h2] at kk
  obtain ⟨hc9, hk⟩ := q_fl hf
  have he : (j_w G M)[r]? = some (G.1 + r, .inr (ci, fs.map (j_v G))) := by rw [j_get hr, hM]; rfl
  have hvc : vwCl[ci]? = some ((m_vc ci).1, (m_vc ci).2.1, (m_vc ci).2.2) := q_vc hc9
  show W p l e R s mid args below meth c H locs cells slots (Q c0 s0) (F0 mid (m_pc L i) JL (.ref (j_ad G r) :: st.map (j_v G)))
  rw [j_at hI hr]
  exact va_get (D := G.2.2.2.1) (cl := vwCl) (tys := j_tys G) hx hb hw (q_in hc9) ho K hI.1 r he hvc kf hk (hw _ (m_fl_ok _ hf)) (fun x h => h) (v := j_v G v) (by rw [List.getElem?_map, hv]; rfl) h1 kk
theorem i_putf (F : j_F p l s mid args meth c own cd mx rt ini hh) (K : j_K G s) {ci kf ix r : Nat} {fs : List Value} {v : Value} (hd : m_d1 cd L (m_pc L i) i (.putfield ix) 3) (hf : (own, (ix, (ci, kf))) ∈ m_fl) (hfin : ((m_vc ci).2.1 kf).2.2.2 = false ∨ (ini = true ∧ own = ci)) (hfit : m_fit (m_kd ci kf) v = true) (hr : r < M.2.1) (hM : M.1 r = .inr (ci, fs)) (hl : kf < fs.length)
    (k : j_P p l e R s mid args below meth c Q G nL c0 s0 L (i + 1) ls st (m_put M r (.inr (ci, fs.set kf v)))) : j_P p l e R s mid args below meth c Q G nL c0 s0 L i ls (v :: .ref r :: st) M := by
  intro JL H locs cells slots hI hL
  obtain ⟨hx, hb, -, ho, hw, -, -, -, hin, -⟩ := F
  obtain ⟨h1, h2⟩ := hd
  obtain ⟨hc9, hk⟩ := q_fl hf
  have he : (j_w G M)[r]? = some (G.1 + r, .inr (ci, fs.map (j_v G))) := by rw [j_get hr, hM]; rfl
  have hvc : vwCl[ci]? = some ((m_vc ci).1, (m_vc ci).2.1, (m_vc ci).2.2) := q_vc hc9
  obtain ⟨hn, hft⟩ := q_fit (G := G) hc9 hk hfit
  show W p l e R s mid args below meth c H locs cells slots (Q c0 s0) (F0 mid (m_pc L i) JL (j_v G v :: .ref (j_ad G r) :: st.map (j_v G)))
  rw [j_at hI hr]
  have fin : ∀ (H1 : Heap) (locs1 : List Loc), va_P G.2.2.2.1 vwCl ((j_w G M).set r (G.1 + r, .inr (ci, (fs.map (j_v G)).set kf (j_v G v)))) H1 → va_D (j_A G) ((j_w G M).set r (G.1 + r, .inr (ci, (fs.map (j_v G)).set kf (j_v G v)))) → va_S (j_A G) s.heap H1 locs1 → W p l e R s mid args below meth c H1 locs1 cells slots (Q c0 s0) (F0 mid (m_pc L i + 3) JL (st.map (j_v G))) := by
    intro H1 locs1 hP _ hS
    rw [← List.map_set] at hP
    have kk := k JL H1 locs1 cells slots (hI.put (x := .inr (ci, fs.set kf v)) hr hP hS) hL
    rw [h2] at kk
    exact kk
  by_cases hf0 : ((m_vc ci).2.1 kf).2.2.2 = false
  · exact va_put (D := G.2.2.2.1) (cl := vwCl) (tys := j_tys G) hx hb hw (q_in hc9) (m_tyf ci) (q_ty hc9) (q_nn hc9) ho K hI.1 (j_D G M) hI.2.1 r he hvc kf hk (hw _ (m_fl_ok _ hf)) (fun x h => h) hf0 (q_ty hc9 kf hk) hn hft (by rw [List.length_map]; exact hl) h1 fin
  · obtain ⟨g1, g2⟩ := hfin.resolve_left hf0
    exact va_putF (D := G.2.2.2.1) (cl := vwCl) (tys := j_tys G) hx hb hw (q_in hc9) (m_tyf ci) (q_ty hc9) (q_nn hc9) ho K hI.1 (j_D G M) hI.2.1 r he hvc kf hk (hw _ (m_fl_ok _ hf)) (fun x h => h) (by simpa using hf0) (hin g1) (by rw [g2]; exact q_dc hc9 kf hk) (q_ty hc9 kf hk) hn hft (by rw [List.length_map]; exact hl) h1 fin
theorem i_in {j : Int32} {n : Nat} (h : m_in j n = true) : vp_in j n := of_decide_eq_true (p := ¬ (j < 0 ∨ n ≤ j.toNatClampNeg)) h
theorem i_iald (F : j_F p l s mid args meth c own cd mx rt ini hh) (K : j_K G s) {r n : Nat} {j : Int32} {f : Nat → Int32} (hd : m_d1 cd L (m_pc L i) i .iaload 1) (hr : r < M.2.1) (hM : M.1 r = .inl (0, (n, .inl f))) (hj : m_in j n = true)
    (k : j_P p l e R s mid args below meth c Q G nL c0 s0 L (i + 1) ls (.int (f j.toNatClampNeg) :: st) M) : j_P p l e R s mid args below meth c Q G nL c0 s0 L i ls (.int j :: .ref r :: st) M := by
  intro JL H locs cells slots hI hL
  have kk := k JL H locs cells slots hI hL
  obtain ⟨hx, hb, -⟩ := F
  obtain ⟨h1, h2⟩ := hd
  rw [h2] at kk
  have he : (j_w G M)[r]? = some (G.1 + r, .inl (G.2.2.1 0, (n, .inl f))) := by rw [j_get hr, hM]; rfl
  show W p l e R s mid args below meth c H locs cells slots (Q c0 s0) (F0 mid (m_pc L i) JL (.int j :: .ref (j_ad G r) :: st.map (j_v G)))
  rw [j_at hI hr]
  exact va_iald hx hb K hI.1 r 0 he (j_ty_at G (by decide)) (i_in hj) h1 kk
theorem i_bald (F : j_F p l s mid args meth c own cd mx rt ini hh) (K : j_K G s) {r n : Nat} {j : Int32} {f : Nat → Int32} (hd : m_d1 cd L (m_pc L i) i .baload 1) (hr : r < M.2.1) (hM : M.1 r = .inl (1, (n, .inl f))) (hj : m_in j n = true)
    (k : j_P p l e R s mid args below meth c Q G nL c0 s0 L (i + 1) ls (.int (f j.toNatClampNeg) :: st) M) : j_P p l e R s mid args below meth c Q G nL c0 s0 L i ls (.int j :: .ref r :: st) M := by
  intro JL H locs cells slots hI hL
  have kk := k JL H locs cells slots hI hL
  obtain ⟨hx, hb, -⟩ := F
  obtain ⟨h1, h2⟩ := hd
  rw [h2] at kk
  have he : (j_w G M)[r]? = some (G.1 + r, .inl (G.2.2.1 1, (n, .inl f))) := by rw [j_get hr, hM]; rfl
  show W p l e R s mid args below meth c H locs cells slots (Q c0 s0) (F0 mid (m_pc L i) JL (.int j :: .ref (j_ad G r) :: st.map (j_v G)))
  rw [j_at hI hr]
  exact va_zald hx hb K hI.1 r 1 he (j_ty_at G (by decide)) (i_in hj) h1 kk
theorem i_lald (F : j_F p l s mid args meth c own cd mx rt ini hh) (K : j_K G s) {r n : Nat} {j : Int32} {f : Nat → Int64} (hd : m_d1 cd L (m_pc L i) i .laload 1) (hr : r < M.2.1) (hM : M.1 r = .inl (2, (n, .inr (.inl f)))) (hj : m_in j n = true)
    (k : j_P p l e R s mid args below meth c Q G nL c0 s0 L (i + 1) ls (.long (f j.toNatClampNeg) :: st) M) : j_P p l e R s mid args below meth c Q G nL c0 s0 L i ls (.int j :: .ref r :: st) M := by
  intro JL H locs cells slots hI hL
  have kk := k JL H locs cells slots hI hL
  obtain ⟨hx, hb, -⟩ := F
  obtain ⟨h1, h2⟩ := hd
  rw [h2] at kk
  have he : (j_w G M)[r]? = some (G.1 + r, .inl (G.2.2.1 2, (n, .inr (.inl f)))) := by rw [j_get hr, hM]; rfl
  show W p l e R s mid args below meth c H locs cells slots (Q c0 s0) (F0 mid (m_pc L i) JL (.int j :: .ref (j_ad G r) :: st.map (j_v G)))
  rw [j_at hI hr]
  exact va_lald hx hb K hI.1 r 2 he (j_ty_at G (by decide)) (i_in hj) h1 kk
theorem i_iast (F : j_F p l s mid args meth c own cd mx rt ini hh) (K : j_K G s) {r n : Nat} {j x : Int32} {f : Nat → Int32} (hd : m_d1 cd L (m_pc L i) i .iastore 1) (hr : r < M.2.1) (hM : M.1 r = .inl (0, (n, .inl f))) (hj : m_in j n = true)
    (k : j_P p l e R s mid args below meth c Q G nL c0 s0 L (i + 1) ls st (m_put M r (.inl (0, (n, .inl (upd f j.toNatClampNeg x)))))) : j_P p l e R s mid args below meth c Q G nL c0 s0 L i ls (.int x :: .int j :: .ref r :: st) M := by
  intro JL H locs cells slots hI hL
  obtain ⟨hx, hb, -⟩ := F
  obtain ⟨h1, h2⟩ := hd
  have he : (j_w G M)[r]? = some (G.1 + r, .inl (G.2.2.1 0, (n, .inl f))) := by rw [j_get hr, hM]; rfl
  show W p l e R s mid args below meth c H locs cells slots (Q c0 s0) (F0 mid (m_pc L i) JL (.int x :: .int j :: .ref (j_ad G r) :: st.map (j_v G)))
  rw [j_at hI hr]
  refine va_iast hx hb K hI.1 (j_D G M) hI.2.1 r 0 he (j_ty_at G (by decide)) (i_in hj) h1 fun H1 locs1 hP _ hS => ?_
  have kk := k JL H1 locs1 cells slots (hI.put (x := .inl (0, (n, .inl (upd f j.toNatClampNeg x)))) hr hP hS) hL
  rw [h2] at kk
  exact kk
theorem i_isb {x : Int32} (h : m_isb x = true) : vp_nar .boolean x = x := by
  simp only [m_isb, Bool.or_eq_true, beq_iff_eq] at h
  rcases h with rfl | rfl <;> rfl
theorem i_bast (F : j_F p l s mid args meth c own cd mx rt ini hh) (K : j_K G s) {r n : Nat} {j x : Int32} {f : Nat → Int32} (hd : m_d1 cd L (m_pc L i) i .bastore 1) (hr : r < M.2.1) (hM : M.1 r = .inl (1, (n, .inl f))) (hj : m_in j n = true) (hb1 : m_isb x = true)
    (k : j_P p l e R s mid args below meth c Q G nL c0 s0 L (i + 1) ls st (m_put M r (.inl (1, (n, .inl (upd f j.toNatClampNeg x)))))) : j_P p l e R s mid args below meth c Q G nL c0 s0 L i ls (.int x :: .int j :: .ref r :: st) M := by
  intro JL H locs cells slots hI hL
  obtain ⟨hx, hb, -⟩ := F
  obtain ⟨h1, h2⟩ := hd
  have he : (j_w G M)[r]? = some (G.1 + r, .inl (G.2.2.1 1, (n, .inl f))) := by rw [j_get hr, hM]; rfl
  show W p l e R s mid args below meth c H locs cells slots (Q c0 s0) (F0 mid (m_pc L i) JL (.int x :: .int j :: .ref (j_ad G r) :: st.map (j_v G)))
  rw [j_at hI hr]
  refine va_zast hx hb K hI.1 (j_D G M) hI.2.1 r 1 he (j_ty_at G (by decide)) (i_in hj) h1 fun H1 locs1 hP _ hS => ?_
  rw [i_isb hb1] at hP
  have kk := k JL H1 locs1 cells slots (hI.put (x := .inl (1, (n, .inl (upd f j.toNatClampNeg x)))) hr hP hS) hL
  rw [h2] at kk
  exact kk
theorem i_last (F : j_F p l s mid args meth c own cd mx rt ini hh) (K : j_K G s) {r n : Nat} {j : Int32} {x : Int64} {f : Nat → Int64} (hd : m_d1 cd L (m_pc L i) i .lastore 1) (hr : r < M.2.1) (hM : M.1 r = .inl (2, (n, .inr (.inl f)))) (hj : m_in j n = true)
    (k : j_P p l e R s mid args below meth c Q G nL c0 s0 L (i + 1) ls st (m_put M r (.inl (2, (n, .inr (.inl (vp_updL f j.toNatClampNeg x))))))) : j_P p l e R s mid args below meth c Q G nL c0 s0 L i ls (.long x :: .int j :: .ref r :: st) M := by
  intro JL H locs cells slots hI hL
  obtain ⟨hx, hb, -⟩ := F
  obtain ⟨h1, h2⟩ := hd
  have he : (j_w G M)[r]? = some (G.1 + r, .inl (G.2.2.1 2, (n, .inr (.inl f)))) := by rw [j_get hr, hM]; rfl
  show W p l e R s mid args below meth c H locs cells slots (Q c0 s0) (F0 mid (m_pc L i) JL (.long x :: .int j :: .ref (j_ad G r) :: st.map (j_v G)))
  rw [j_at hI hr]
  refine va_last hx hb K hI.1 (j_D G M) hI.2.1 r 2 he (j_ty_at G (by decide)) (i_in hj) h1 fun H1 locs1 hP _ hS => ?_
  have kk := k JL H1 locs1 cells slots (hI.put (x := .inl (2, (n, .inr (.inl (vp_updL f j.toNatClampNeg x))))) hr hP hS) hL
  rw [h2] at kk
  exact kk
/-- of a kind from 3 on: arrays of references -/
theorem j_ty_ref {t : Nat} (h3 : 3 ≤ t) (h9 : t < 9) : (j_ty.getD t .int).isReference = true := by
  match t, h3, h9 with
  | 3, _, _ => rfl
  | 4, _, _ => rfl
  | 5, _, _ => rfl
  | 6, _, _ => rfl
  | 7, _, _ => rfl
  | 8, _, _ => rfl
theorem i_aald (F : j_F p l s mid args meth c own cd mx rt ini hh) (K : j_K G s) {r n t x : Nat} {j : Int32} {f : Nat → Option Nat} (hd : m_d1 cd L (m_pc L i) i .aaload 1) (hr : r < M.2.1) (h3 : 3 ≤ t) (h9 : t < 9) (hM : M.1 r = .inl (t, (n, .inr (.inr (.inr (.inr f)))))) (hj : m_in j n = true) (hf : f j.toNatClampNeg = some x)
    (k : j_P p l e R s mid args below meth c Q G nL c0 s0 L (i + 1) ls (.ref x :: st) M) : j_P p l e R s mid args below meth c Q G nL c0 s0 L i ls (.int j :: .ref r :: st) M := by
  intro JL H locs cells slots hI hL
  have kk := k JL H locs cells slots hI hL
  obtain ⟨hx, hb, -⟩ := F
  obtain ⟨h1, h2⟩ := hd
  rw [h2] at kk
  have he : (j_w G M)[r]? = some (G.1 + r, .inl (G.2.2.1 t, (n, .inr (.inr (.inr (.inr (fun j => (f j).map (j_ad G)))))))) := by rw [j_get hr, hM]; rfl
  show W p l e R s mid args below meth c H locs cells slots (Q c0 s0) (F0 mid (m_pc L i) JL (.int j :: .ref (j_ad G r) :: st.map (j_v G)))
  rw [j_at hI hr]
  have hin := i_in hj
  have hlt : j.toNatClampNeg < n := Nat.not_le.mp fun q => hin (Or.inr q)
  refine W.aald (v := .ref (j_ad G x)) (ty := j_ty.getD t .int) hx hb (hI.1 r _ he) ((K.2 t _ (j_ty_at G h9)).1 n (fun j => va_rf ((f j).map (j_ad G)))) (j_ty_ref h3 h9) (fun q => by cases q) (by show ¬ (j < 0 ∨ (arrV _ _ _).slots.size ≤ _); rw [arrV_size]; exact hin) (by show (arrV _ _ _).slots[_]? = _; rw [arrV_read _ _ hlt]; show some (va_rf ((f j.toNatClampNeg).map (j_ad G))) = _; rw [hf]; rfl) rfl rfl h1 kk
theorem i_alen (F : j_F p l s mid args meth c own cd mx rt ini hh) (K : j_K G s) {r t : Nat} {a : vp_A} (hd : m_d1 cd L (m_pc L i) i .arraylength 1) (hr : r < M.2.1) (h9 : t < 9) (hM : M.1 r = .inl (t, a))
    (k : j_P p l e R s mid args below meth c Q G nL c0 s0 L (i + 1) ls (.int (Int32.ofNat a.1) :: st) M) : j_P p l e R s mid args below meth c Q G nL c0 s0 L i ls (.ref r :: st) M := by
  intro JL H locs cells slots hI hL
  have kk := k JL H locs cells slots hI hL
  obtain ⟨hx, hb, -⟩ := F
  obtain ⟨h1, h2⟩ := hd
  rw [h2] at kk
  have he : (j_w G M)[r]? = some (G.1 + r, .inl (G.2.2.1 t, j_a G a)) := by rw [j_get hr, hM]; rfl
  have ha : (j_a G a).1 = a.1 := by
    obtain ⟨n, a⟩ := a
    rcases a with a | a | a | a | a <;> rfl
  show W p l e R s mid args below meth c H locs cells slots (Q c0 s0) (F0 mid (m_pc L i) JL (.ref (j_ad G r) :: st.map (j_v G)))
  rw [j_at hI hr]
  exact va_alen hx hb K hI.1 r t he (j_ty_at G h9) (by rw [ha]) h1 kk
theorem i_aast (F : j_F p l s mid args meth c own cd mx rt ini hh) (K : j_K G s) {r n t x ci : Nat} {j : Int32} {f : Nat → Option Nat} {fs : List Value} (hd : m_d1 cd L (m_pc L i) i .aastore 1) (hr : r < M.2.1) (hxr : x < M.2.1) (h5 : 5 ≤ t) (h9 : t < 9) (hM : M.1 r = .inl (t, (n, .inr (.inr (.inr (.inr f)))))) (hV : M.1 x = .inr (ci, fs)) (hc : ci = m_el t) (hj : m_in j n = true)
    (k : j_P p l e R s mid args below meth c Q G nL c0 s0 L (i + 1) ls st (m_put M r (.inl (t, (n, .inr (.inr (.inr (.inr (va_up f j.toNatClampNeg (some x)))))))))) : j_P p l e R s mid args below meth c Q G nL c0 s0 L i ls (.ref x :: .int j :: .ref r :: st) M := by
  intro JL H locs cells slots hI hL
  obtain ⟨hx, hb, -⟩ := F
  obtain ⟨h1, h2⟩ := hd
  have he : (j_w G M)[r]? = some (G.1 + r, .inl (G.2.2.1 t, (n, .inr (.inr (.inr (.inr (fun j => (f j).map (j_ad G)))))))) := by rw [j_get hr, hM]; rfl
  have hv : (j_w G M)[x]? = some (G.1 + x, .inr (ci, fs.map (j_v G))) := by rw [j_get hxr, hV]; rfl
  have hc9 : ci < 9 ∧ j_ty.getD t .int = .object (m_vc ci).1 := by
    subst hc
    match t, h5, h9 with
    | 5, _, _ => exact ⟨by decide, rfl⟩
    | 6, _, _ => exact ⟨by decide, rfl⟩
    | 7, _, _ => exact ⟨by decide, rfl⟩
    | 8, _, _ => exact ⟨by decide, rfl⟩
  show W p l e R s mid args below meth c H locs cells slots (Q c0 s0) (F0 mid (m_pc L i) JL (.ref (j_ad G x) :: .int j :: .ref (j_ad G r) :: st.map (j_v G)))
  rw [j_at hI hr, j_at hI hxr]
  refine va_astq hx hb K hI.1 (j_D G M) hI.2.1 r t x ci he (by rw [j_ty_at G h9, hc9.2]) hv (q_vc hc9.1) (i_in hj) h1 fun H1 locs1 hP _ hS => ?_
  have e1 : (va_up (fun j => (f j).map (j_ad G)) j.toNatClampNeg (some (G.1 + x))) = (fun q => (va_up f j.toNatClampNeg (some x) q).map (j_ad G)) := by
    funext q
    by_cases hq : q = j.toNatClampNeg
    · simp [va_up, hq, j_at hI hxr]
    · simp [va_up, hq]
  rw [e1] at hP
  have kk := k JL H1 locs1 cells slots (hI.put (x := .inl (t, (n, .inr (.inr (.inr (.inr (va_up f j.toNatClampNeg (some x)))))))) hr hP hS) hL
  rw [h2] at kk
  exact kk
end J2
