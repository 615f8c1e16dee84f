/-! THE JDK's OWN METHODS that the classes call (but for the texts'); words by a program (wip/whole/gen_15.py) -/
theorem x_min_s : Cond.static Lib.Math.min.name ∈ m_ws := m_pl_in (k := 2208) (by decide +kernel)
theorem x_max_s : Cond.static Lib.Math.max.name ∈ m_ws := m_pl_in (k := 2211) (by decide +kernel)
theorem x_math : Cond.initialized "java/lang/Math" ∈ m_ws := m_pl_in (k := 1014) (by decide +kernel)
theorem x_min_c : Cond.code Lib.Math.min.name Lib.Math.min.code 2 (some .int) ∈ m_ws := m_pl_in (k := 2209) (by decide +kernel)
theorem x_max_c : Cond.code Lib.Math.max.name Lib.Math.max.code 2 (some .int) ∈ m_ws := m_pl_in (k := 2212) (by decide +kernel)
theorem x_cp_n : Cond.native arraycopyName ∈ m_ws := m_pl_in (k := 2131) (by decide +kernel)
theorem x_cp_s : Cond.static arraycopyName ∈ m_ws := m_pl_in (k := 2130) (by decide +kernel)
theorem x_sys : Cond.initialized "java/lang/System" ∈ m_ws := m_pl_in (k := 1020) (by decide +kernel)
theorem x_oi_i : Cond.instanceMethod Lib.objectInit ∈ m_ws := m_pl_in (k := 1027) (by decide +kernel)
theorem x_oi_c : Cond.code Lib.objectInit ⟨#[0xb1]⟩ 1 none ∈ m_ws := m_pl_in (k := 1028) (by decide +kernel)
section J3
variable {p : Program} {l : Launch} {e : Env} {R : Room} {s : State} {mid : MethodId} {args : Array Value} {below : List Frame} {meth : Method} {c : Code} {Q : Nat → Nat → State → Prop}
variable {G : j_G} {nL c0 s0 i own : Nat} {cd : ByteArray} {rt : Option FieldType} {ini : Bool} {hh : List (Nat × Nat × Nat × Nat)} {L : List (Nat × m_I)} {ls : m_L} {st : List Value} {M : m_M}
/-- room for a call of the JDK's own -/
def j_R (R : Room) (M : m_M) (c0 s0 : Nat) : Prop := 12 ≤ R.frames ∧ 400 ≤ R.locals ∧ M.2.2.1 ≤ c0 + R.cells ∧ M.2.2.2 ≤ s0 + R.slots
theorem j_ad_ge {G : j_G} {k : Nat} (h : ¬ k < 1000000) : j_ad G k = G.2.1 (k - 1000000) := if_neg h
theorem j_ad_text (G : j_G) (a : Nat) : j_ad G (m_T0 + a) = G.2.1 (1 + a) := by
  have h1 : ¬ m_T0 + a < 1000000 := by unfold m_T0; omega
  have h2 : m_T0 + a - 1000000 = 1 + a := by unfold m_T0; omega
  rw [j_ad_ge h1, h2]
theorem j_ad_scr (G : j_G) : j_ad G 1000000 = G.2.1 0 := by
  rw [j_ad_ge (Nat.lt_irrefl 1000000)]
theorem i_min (F : j_F p l s mid args meth c own cd nL rt ini hh) (hR : j_R R M c0 s0) {ix : Nat} {x y : Int32} (hd : m_d1 cd L (m_pc L i) i (.invokestatic ix) 3) (hj : (own, (ix, 1)) ∈ m_jl) (hs : m_cats st ≤ 8)
    (k : j_P p l e R s mid args below meth c Q G nL c0 s0 L (i + 1) ls (.int (if y < x then y else x) :: st) M) : j_P p l e R s mid args below meth c Q G nL c0 s0 L i ls (.int y :: .int x :: st) M := by
  intro JL H locs cells slots hI hL
  have kk := k JL H locs cells slots hI hL
  obtain ⟨hx, hb, hml, ho, hw, -⟩ := F
  obtain ⟨h1, h2⟩ := hd
  rw [h2] at kk
  obtain ⟨r1, r2, r3, r4⟩ := hR
  obtain ⟨-, -, -, hc, hsl⟩ := hI
  exact va_mmin hx hb (by rw [hml, hL.1.1]) ho (hw _ (m_jl_ok _ hj)) (hw _ x_min_s) (hw _ x_math) (hw _ x_min_c) (by omega) (by rw [i_cats]; omega) (by omega) (by omega) h1 kk
theorem i_max (F : j_F p l s mid args meth c own cd nL rt ini hh) (hR : j_R R M c0 s0) {ix : Nat} {x y : Int32} (hd : m_d1 cd L (m_pc L i) i (.invokestatic ix) 3) (hj : (own, (ix, 2)) ∈ m_jl) (hs : m_cats st ≤ 8)
    (k : j_P p l e R s mid args below meth c Q G nL c0 s0 L (i + 1) ls (.int (if x < y then y else x) :: st) M) : j_P p l e R s mid args below meth c Q G nL c0 s0 L i ls (.int y :: .int x :: st) M := by
  intro JL H locs cells slots hI hL
  have kk := k JL H locs cells slots hI hL
  obtain ⟨hx, hb, hml, ho, hw, -⟩ := F
  obtain ⟨h1, h2⟩ := hd
  rw [h2] at kk
  obtain ⟨r1, r2, r3, r4⟩ := hR
  obtain ⟨-, -, -, hc, hsl⟩ := hI
  exact va_mmax hx hb (by rw [hml, hL.1.1]) ho (hw _ (m_jl_ok _ hj)) (hw _ x_max_s) (hw _ x_math) (hw _ x_max_c) (by omega) (by rw [i_cats]; omega) (by omega) (by omega) h1 kk
theorem i_pop (F : j_F p l s mid args meth c own cd nL rt ini hh) (hR : j_R R M c0 s0) {ix r : Nat} (hd : m_d1 cd L (m_pc L i) i (.invokespecial ix) 3) (hj : (own, (ix, 0)) ∈ m_jl) (hs : m_cats st ≤ 8)
    (k : j_P p l e R s mid args below meth c Q G nL c0 s0 L (i + 1) ls st M) : j_P p l e R s mid args below meth c Q G nL c0 s0 L i ls (.ref r :: st) M := by
  intro JL H locs cells slots hI hL
  have kk := k JL H locs cells slots hI hL
  obtain ⟨hx, hb, hml, ho, hw, -⟩ := F
  obtain ⟨h1, h2⟩ := hd
  rw [h2] at kk
  obtain ⟨r1, r2, r3, r4⟩ := hR
  exact W.objInit hx hb ho (hw _ (m_jl_ok _ hj)) (hw _ x_oi_i) (hw _ x_oi_c) rfl (by rw [hml]; exact hL.1.1) rfl h1 (by omega) (by show 2 * 0 + ((st.map (j_v G)).map fun v => v.category).sum + 12 ≤ _; rw [i_cats]; omega) kk
theorem i_copy (F : j_F p l s mid args meth c own cd nL rt ini hh) (K : j_K G s) (hR : j_R R M c0 s0) {ix a b n0 n1 : Nat} {n dp sp : Int32} {f g : Nat → Int32} (hd : m_d1 cd L (m_pc L i) i (.invokestatic ix) 3) (hj : (own, (ix, 3)) ∈ m_jl) (hs : m_cats st ≤ 8)
    (hb' : b < M.2.1) (ha : a < M.2.1) (hMb : M.1 b = .inl (0, (n0, .inl f))) (hMa : M.1 a = .inl (0, (n1, .inl g))) (h1 : ¬ sp < 0) (h2 : ¬ dp < 0) (h3 : ¬ n < 0) (h4 : sp.toNatClampNeg + n.toNatClampNeg ≤ n0) (h5 : dp.toNatClampNeg + n.toNatClampNeg ≤ n1)
    (k : j_P p l e R s mid args below meth c Q G nL c0 s0 L (i + 1) ls st (m_put M a (.inl (0, (n1, .inl (va_cpy f g sp.toNatClampNeg dp.toNatClampNeg n.toNatClampNeg)))))) : j_P p l e R s mid args below meth c Q G nL c0 s0 L i ls (.int n :: .int dp :: .ref a :: .int sp :: .ref b :: st) M := by
  intro JL H locs cells slots hI hL
  obtain ⟨hx, hb, hml, ho, hw, -⟩ := F
  obtain ⟨g1, g2⟩ := hd
  obtain ⟨r1, r2, r3, r4⟩ := hR
  have heb : (j_w G M)[b]? = some (G.1 + b, .inl (G.2.2.1 0, (n0, .inl f))) := by rw [j_get hb', hMb]; rfl
  have hea : (j_w G M)[a]? = some (G.1 + a, .inl (G.2.2.1 0, (n1, .inl g))) := by rw [j_get ha, hMa]; rfl
  show W p l e R s mid args below meth c H locs cells slots (Q c0 s0) (F0 mid (m_pc L i) JL (.int n :: .int dp :: .ref (j_ad G a) :: .int sp :: .ref (j_ad G b) :: st.map (j_v G)))
  rw [j_at hI hb', j_at hI ha]
  refine va_copyi hx hb (by rw [hml, hL.1.1]) ho (hw _ (m_jl_ok _ hj)) (hw _ x_cp_n) (hw _ x_cp_s) (hw _ x_sys) K hI.1 (j_D G M) hI.2.1 b a 0 0 heb hea (j_ty_at G (by decide)) (j_ty_at G (by decide)) rfl h1 h2 h3 h4 h5 (fun _ _ => rfl) (by omega) (by rw [i_cats]; exact Nat.le_trans (Nat.add_le_add_right hs _) (Nat.le_trans (by decide) r2)) g1 fun H1 locs1 hP _ hS => ?_
  have kk := k JL H1 locs1 cells slots (hI.put (x := .inl (0, (n1, .inl (va_cpy f g sp.toNatClampNeg dp.toNatClampNeg n.toNatClampNeg)))) ha hP hS) hL
  rw [g2] at kk
  exact kk
theorem i_ldc (F : j_F p l s mid args meth c own cd nL rt ini hh) (E : j_E G s) {a b : Nat} (hd : m_d1 cd L (m_pc L i) i (.ldc b) 2) (hj : (own, (b, a)) ∈ m_sl)
    (k : j_P p l e R s mid args below meth c Q G nL c0 s0 L (i + 1) ls (.ref (m_T0 + a) :: st) M) : j_P p l e R s mid args below meth c Q G nL c0 s0 L i ls st M := by
  intro JL H locs cells slots hI hL
  have kk := k JL H locs cells slots hI hL
  obtain ⟨hx, hb, hml, ho, hw, -⟩ := F
  obtain ⟨h1, h2⟩ := hd
  rw [h2] at kk
  have e1 : j_ad G (m_T0 + a) = G.2.1 (1 + a) := j_ad_text G a
  have e2 : j_v G (.ref (m_T0 + a)) = .ref (G.2.1 (1 + a)) := congrArg Value.ref e1
  rw [List.map_cons, e2] at kk
  have e3 : vk_R (m_cn own) b (m_txs.getD a "") (G.2.1 (1 + a)) s := E.2.2.1 (own, (b, a)) hj
  generalize G.2.1 (1 + a) = z at e3 kk
  generalize m_txs.getD a "" = t at e3
  exact va_ldcS (q := z) hx hb ho e3 h1 kk
theorem i_scr (F : j_F p l s mid args meth c own cd nL rt ini hh) (E : j_E G s) {j : Int32} (hd : m_d1 cd L (m_pc L i) i .iaload 1) (hj : m_in j G.2.2.2.2.1 = true)
    (k : j_P p l e R s mid args below meth c Q G nL c0 s0 L (i + 1) ls (.int (G.2.2.2.2.2 j.toNatClampNeg) :: st) M) : j_P p l e R s mid args below meth c Q G nL c0 s0 L i ls (.int j :: .ref 1000000 :: st) M := by
  intro JL H locs cells slots hI hL
  have kk := k JL H locs cells slots hI hL
  obtain ⟨hx, hb, hml, ho, hw, -⟩ := F
  obtain ⟨h1, h2⟩ := hd
  rw [h2] at kk
  obtain ⟨⟨e1, e2, e3⟩, -⟩ := E
  show W p l e R s mid args below meth c H locs cells slots (Q c0 s0) (F0 mid (m_pc L i) JL (.int j :: .ref (j_ad G 1000000) :: st.map (j_v G)))
  rw [j_ad_scr]
  exact va_sld (A := j_A G) hx hb e1 e2 (Nat.not_le.mpr e3) hI.2.1 (i_in hj) h1 kk
theorem i_scl (F : j_F p l s mid args meth c own cd nL rt ini hh) (E : j_E G s) (hd : m_d1 cd L (m_pc L i) i .arraylength 1)
    (k : j_P p l e R s mid args below meth c Q G nL c0 s0 L (i + 1) ls (.int (Int32.ofNat G.2.2.2.2.1) :: st) M) : j_P p l e R s mid args below meth c Q G nL c0 s0 L i ls (.ref 1000000 :: st) M := by
  intro JL H locs cells slots hI hL
  have kk := k JL H locs cells slots hI hL
  obtain ⟨hx, hb, hml, ho, hw, -⟩ := F
  obtain ⟨h1, h2⟩ := hd
  rw [h2] at kk
  obtain ⟨⟨e1, e2, e3⟩, -⟩ := E
  show W p l e R s mid args below meth c H locs cells slots (Q c0 s0) (F0 mid (m_pc L i) JL (.ref (j_ad G 1000000) :: st.map (j_v G)))
  rw [j_ad_scr]
  exact va_slen (A := j_A G) hx hb e1 e2 (Nat.not_le.mpr e3) hI.2.1 h1 kk
end J3
