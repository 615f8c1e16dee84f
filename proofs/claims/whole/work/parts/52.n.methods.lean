/-! METHODS, written by wip/whole/gen_51.py (13). -/
section K13
variable {X : m_X}
theorem md_251 : m_md 251 = m_L_law_ := rfl
noncomputable def f251 (X : m_X) (s : g_S) (ex : Nat) (x4 : Int32) : Option ((Int32 × (g_S × Nat)) ⊕ (Int32 × (g_S × Nat))) := (if ((Int32.ofNat X.1) - 7) < x4 then (some (.inr (1, (s, ex)))) else (if m_in x4 X.1 = true then (if ((X.2 x4.toNatClampNeg) &&& 63) = 0 then (if m_in (x4 + 1) X.1 = true then if m_in (x4 + 2) X.1 = true then if m_in (x4 + 3) X.1 = true then if m_in (x4 + 4) X.1 = true then if m_in (x4 + 5) X.1 = true then g_bd (f78 s (X.2 (x4 + 1).toNatClampNeg) (X.2 (x4 + 2).toNatClampNeg) (X.2 (x4 + 3).toNatClampNeg) (X.2 (x4 + 4).toNatClampNeg) (X.2 (x4 + 5).toNatClampNeg)) fun v9 s10 => g_bd (f137 s10 (X.2 (x4 + 1).toNatClampNeg) (X.2 (x4 + 2).toNatClampNeg) (X.2 (x4 + 3).toNatClampNeg) (X.2 (x4 + 4).toNatClampNeg) (X.2 (x4 + 5).toNatClampNeg)) fun v11 s12 => if v9 = v11 then (some (.inl (x4 + 7, (s12, ex)))) else (some (.inr (0, (s12, ex)))) else none else none else none else none else none) else (if ((X.2 x4.toNatClampNeg) &&& 63) = 1 then (if m_in (x4 + 1) X.1 = true then g_wd (f222 s (X.2 (x4 + 1).toNatClampNeg)) fun v6 k8 s7 => g_bd (f165 s7 (X.2 (x4 + 1).toNatClampNeg)) fun v9 s10 => (f133 s10).bind fun v11 => if v11 = v6 then (if v6 = 0 then (if (lg_cmp ((s10 564 0).toInt64) v9.toInt64) = 0 then (some (.inl (x4 + 7, (s10, ex + k8)))) else (some (.inr (0, (s10, ex + k8))))) else (some (.inl (x4 + 7, (s10, ex + k8))))) else (some (.inr (0, (s10, ex + k8)))) else none) else (if ((X.2 x4.toNatClampNeg) &&& 63) = 2 then ((f80 s).bind fun v6 => g_bd (f166 s) fun v7 s8 => if v6 = v7 then (some (.inl (x4 + 7, (s8, ex)))) else (some (.inr (0, (s8, ex))))) else (if ((X.2 x4.toNatClampNeg) &&& 63) = 3 then (if m_in (x4 + 1) X.1 = true then g_wd (f223 s (X.2 (x4 + 1).toNatClampNeg)) fun v8 k10 s9 => g_bd (f167 s9 (X.2 (x4 + 1).toNatClampNeg)) fun v11 s12 => (f133 s12).bind fun v13 => if v13 = v8 then (if v8 = 0 then (if (lg_cmp ((s12 564 0).toInt64) v11.toInt64) = 0 then (some (.inl (x4 + 7, (s12, ex + k10)))) else (some (.inr (0, (s12, ex + k10))))) else (some (.inl (x4 + 7, (s12, ex + k10))))) else (some (.inr (0, (s12, ex + k10)))) else none) else (if ((X.2 x4.toNatClampNeg) &&& 63) = 4 then (if m_in (x4 + 1) X.1 = true then if m_in (x4 + 2) X.1 = true then if m_in (x4 + 3) X.1 = true then if m_in (x4 + 4) X.1 = true then if m_in (x4 + 5) X.1 = true then if m_in (x4 + 6) X.1 = true then g_wd (f224 s (X.2 (x4 + 1).toNatClampNeg) (X.2 (x4 + 2).toNatClampNeg) (X.2 (x4 + 3).toNatClampNeg) (X.2 (x4 + 4).toNatClampNeg) (X.2 (x4 + 5).toNatClampNeg) (X.2 (x4 + 6).toNatClampNeg)) fun v14 k16 s15 => g_bd (f170 s15 (X.2 (x4 + 1).toNatClampNeg) (X.2 (x4 + 2).toNatClampNeg) (X.2 (x4 + 3).toNatClampNeg) (X.2 (x4 + 4).toNatClampNeg) (X.2 (x4 + 5).toNatClampNeg) (X.2 (x4 + 6).toNatClampNeg)) fun v17 s18 => (f133 s18).bind fun v19 => if v19 = v14 then (if v14 = 0 then (if (lg_cmp ((s18 564 0).toInt64) v17.toInt64) = 0 then (some (.inl (x4 + 7, (s18, ex + k16)))) else (some (.inr (0, (s18, ex + k16))))) else (some (.inl (x4 + 7, (s18, ex + k16))))) else (some (.inr (0, (s18, ex + k16)))) else none else none else none else none else none else none) else (if ((X.2 x4.toNatClampNeg) &&& 63) = 5 then (if m_in (x4 + 1) X.1 = true then if m_in (x4 + 2) X.1 = true then if m_in (x4 + 3) X.1 = true then g_wd (f225 s (X.2 (x4 + 1).toNatClampNeg) (X.2 (x4 + 2).toNatClampNeg) (X.2 (x4 + 3).toNatClampNeg)) fun v12 k14 s13 => g_bd (f171 s13 (X.2 (x4 + 1).toNatClampNeg) (X.2 (x4 + 2).toNatClampNeg) (X.2 (x4 + 3).toNatClampNeg)) fun v15 s16 => (f133 s16).bind fun v17 => if v17 = v12 then (if v12 = 0 then (if v15 = 0 then (if (lg_cmp ((s16 564 0).toInt64) (Int64.ofNat 0)) = 0 then (some (.inl (x4 + 7, (s16, ex + k14)))) else (some (.inr (0, (s16, ex + k14))))) else (if (lg_cmp ((s16 564 0).toInt64) (Int64.ofNat 1)) = 0 then (some (.inl (x4 + 7, (s16, ex + k14)))) else (some (.inr (0, (s16, ex + k14)))))) else (some (.inl (x4 + 7, (s16, ex + k14))))) else (some (.inr (0, (s16, ex + k14)))) else none else none else none) else (if ((X.2 x4.toNatClampNeg) &&& 63) = 6 then (if m_in (x4 + 1) X.1 = true then if m_in (x4 + 2) X.1 = true then if m_in (x4 + 3) X.1 = true then if m_in (x4 + 4) X.1 = true then if m_in (x4 + 5) X.1 = true then if (X.2 (x4 + 5).toNatClampNeg) = 0 then (g_wd (f226 s (X.2 (x4 + 1).toNatClampNeg) (X.2 (x4 + 2).toNatClampNeg) (X.2 (x4 + 3).toNatClampNeg) (X.2 (x4 + 4).toNatClampNeg) 0) fun v16 k18 s17 => if (X.2 (x4 + 5).toNatClampNeg) = 0 then (g_bd (f172 s17 (X.2 (x4 + 1).toNatClampNeg) (X.2 (x4 + 2).toNatClampNeg) (X.2 (x4 + 3).toNatClampNeg) (X.2 (x4 + 4).toNatClampNeg) 0) fun v20 s21 => (f133 s21).bind fun v22 => if v22 = v16 then (if v16 = 0 then (if (lg_cmp ((s21 564 0).toInt64) v20.toInt64) = 0 then (some (.inl (x4 + 7, (s21, ex + k18)))) else (some (.inr (0, (s21, ex + k18))))) else (some (.inl (x4 + 7, (s21, ex + k18))))) else (some (.inr (0, (s21, ex + k18))))) else (g_bd (f172 s17 (X.2 (x4 + 1).toNatClampNeg) (X.2 (x4 + 2).toNatClampNeg) (X.2 (x4 + 3).toNatClampNeg) (X.2 (x4 + 4).toNatClampNeg) 1) fun v20 s21 => (f133 s21).bind fun v22 => if v22 = v16 then (if v16 = 0 then (if (lg_cmp ((s21 564 0).toInt64) v20.toInt64) = 0 then (some (.inl (x4 + 7, (s21, ex + k18)))) else (some (.inr (0, (s21, ex + k18))))) else (some (.inl (x4 + 7, (s21, ex + k18))))) else (some (.inr (0, (s21, ex + k18)))))) else (g_wd (f226 s (X.2 (x4 + 1).toNatClampNeg) (X.2 (x4 + 2).toNatClampNeg) (X.2 (x4 + 3).toNatClampNeg) (X.2 (x4 + 4).toNatClampNeg) 1) fun v16 k18 s17 => if (X.2 (x4 + 5).toNatClampNeg) = 0 then (g_bd (f172 s17 (X.2 (x4 + 1).toNatClampNeg) (X.2 (x4 + 2).toNatClampNeg) (X.2 (x4 + 3).toNatClampNeg) (X.2 (x4 + 4).toNatClampNeg) 0) fun v20 s21 => (f133 s21).bind fun v22 => if v22 = v16 then (if v16 = 0 then (if (lg_cmp ((s21 564 0).toInt64) v20.toInt64) = 0 then (some (.inl (x4 + 7, (s21, ex + k18)))) else (some (.inr (0, (s21, ex + k18))))) else (some (.inl (x4 + 7, (s21, ex + k18))))) else (some (.inr (0, (s21, ex + k18))))) else (g_bd (f172 s17 (X.2 (x4 + 1).toNatClampNeg) (X.2 (x4 + 2).toNatClampNeg) (X.2 (x4 + 3).toNatClampNeg) (X.2 (x4 + 4).toNatClampNeg) 1) fun v20 s21 => (f133 s21).bind fun v22 => if v22 = v16 then (if v16 = 0 then (if (lg_cmp ((s21 564 0).toInt64) v20.toInt64) = 0 then (some (.inl (x4 + 7, (s21, ex + k18)))) else (some (.inr (0, (s21, ex + k18))))) else (some (.inl (x4 + 7, (s21, ex + k18))))) else (some (.inr (0, (s21, ex + k18)))))) else none else none else none else none else none) else (if ((X.2 x4.toNatClampNeg) &&& 63) = 7 then (if m_in (x4 + 1) X.1 = true then if m_in (x4 + 2) X.1 = true then g_wd (f227 s (X.2 (x4 + 1).toNatClampNeg) (X.2 (x4 + 2).toNatClampNeg)) fun v13 k15 s14 => g_bd (f174 s14 (X.2 (x4 + 1).toNatClampNeg) (X.2 (x4 + 2).toNatClampNeg)) fun v16 s17 => (f133 s17).bind fun v18 => if v18 = v13 then (if v13 = 0 then (if (lg_cmp ((s17 564 0).toInt64) v16.toInt64) = 0 then (some (.inl (x4 + 7, (s17, ex + k15)))) else (some (.inr (0, (s17, ex + k15))))) else (some (.inl (x4 + 7, (s17, ex + k15))))) else (some (.inr (0, (s17, ex + k15)))) else none else none) else (if ((X.2 x4.toNatClampNeg) &&& 63) = 8 then (if m_in (x4 + 1) X.1 = true then g_wd (f228 s (X.2 (x4 + 1).toNatClampNeg)) fun v13 k15 s14 => g_bd (f175 s14 (X.2 (x4 + 1).toNatClampNeg)) fun v16 s17 => (f133 s17).bind fun v18 => if v18 = v13 then (if v13 = 0 then (if (lg_cmp ((s17 564 0).toInt64) v16.toInt64) = 0 then (some (.inl (x4 + 7, (s17, ex + k15)))) else (some (.inr (0, (s17, ex + k15))))) else (some (.inl (x4 + 7, (s17, ex + k15))))) else (some (.inr (0, (s17, ex + k15)))) else none) else (if ((X.2 x4.toNatClampNeg) &&& 63) = 9 then (if m_in (x4 + 1) X.1 = true then if m_in (x4 + 2) X.1 = true then g_wd (f229 s (X.2 (x4 + 1).toNatClampNeg) (X.2 (x4 + 2).toNatClampNeg)) fun v15 k17 s16 => g_bd (f176 s16 (X.2 (x4 + 1).toNatClampNeg) (X.2 (x4 + 2).toNatClampNeg)) fun v18 s19 => (f133 s19).bind fun v20 => if v20 = v15 then (if v15 = 0 then (if (lg_cmp ((s19 564 0).toInt64) v18.toInt64) = 0 then (some (.inl (x4 + 7, (s19, ex + k17)))) else (some (.inr (0, (s19, ex + k17))))) else (some (.inl (x4 + 7, (s19, ex + k17))))) else (some (.inr (0, (s19, ex + k17)))) else none else none) else (if ((X.2 x4.toNatClampNeg) &&& 63) = 10 then (if m_in (x4 + 1) X.1 = true then if m_in (x4 + 2) X.1 = true then if m_in (x4 + 3) X.1 = true then if (X.2 (x4 + 3).toNatClampNeg) = 0 then (g_wd (f230 s (X.2 (x4 + 1).toNatClampNeg) (X.2 (x4 + 2).toNatClampNeg) 0) fun v18 k20 s19 => if (X.2 (x4 + 3).toNatClampNeg) = 0 then (g_bd (f177 s19 (X.2 (x4 + 1).toNatClampNeg) (X.2 (x4 + 2).toNatClampNeg) 0) fun v22 s23 => (f133 s23).bind fun v24 => if v24 = v18 then (if v18 = 0 then (if v22 = 0 then (if (lg_cmp ((s23 564 0).toInt64) (Int64.ofNat 0)) = 0 then (some (.inl (x4 + 7, (s23, ex + k20)))) else (some (.inr (0, (s23, ex + k20))))) else (if (lg_cmp ((s23 564 0).toInt64) (Int64.ofNat 1)) = 0 then (some (.inl (x4 + 7, (s23, ex + k20)))) else (some (.inr (0, (s23, ex + k20)))))) else (some (.inl (x4 + 7, (s23, ex + k20))))) else (some (.inr (0, (s23, ex + k20))))) else (g_bd (f177 s19 (X.2 (x4 + 1).toNatClampNeg) (X.2 (x4 + 2).toNatClampNeg) 1) fun v22 s23 => (f133 s23).bind fun v24 => if v24 = v18 then (if v18 = 0 then (if v22 = 0 then (if (lg_cmp ((s23 564 0).toInt64) (Int64.ofNat 0)) = 0 then (some (.inl (x4 + 7, (s23, ex + k20)))) else (some (.inr (0, (s23, ex + k20))))) else (if (lg_cmp ((s23 564 0).toInt64) (Int64.ofNat 1)) = 0 then (some (.inl (x4 + 7, (s23, ex + k20)))) else (some (.inr (0, (s23, ex + k20)))))) else (some (.inl (x4 + 7, (s23, ex + k20))))) else (some (.inr (0, (s23, ex + k20)))))) else (g_wd (f230 s (X.2 (x4 + 1).toNatClampNeg) (X.2 (x4 + 2).toNatClampNeg) 1) fun v18 k20 s19 => if (X.2 (x4 + 3).toNatClampNeg) = 0 then (g_bd (f177 s19 (X.2 (x4 + 1).toNatClampNeg) (X.2 (x4 + 2).toNatClampNeg) 0) fun v22 s23 => (f133 s23).bind fun v24 => if v24 = v18 then (if v18 = 0 then (if v22 = 0 then (if (lg_cmp ((s23 564 0).toInt64) (Int64.ofNat 0)) = 0 then (some (.inl (x4 + 7, (s23, ex + k20)))) else (some (.inr (0, (s23, ex + k20))))) else (if (lg_cmp ((s23 564 0).toInt64) (Int64.ofNat 1)) = 0 then (some (.inl (x4 + 7, (s23, ex + k20)))) else (some (.inr (0, (s23, ex + k20)))))) else (some (.inl (x4 + 7, (s23, ex + k20))))) else (some (.inr (0, (s23, ex + k20))))) else (g_bd (f177 s19 (X.2 (x4 + 1).toNatClampNeg) (X.2 (x4 + 2).toNatClampNeg) 1) fun v22 s23 => (f133 s23).bind fun v24 => if v24 = v18 then (if v18 = 0 then (if v22 = 0 then (if (lg_cmp ((s23 564 0).toInt64) (Int64.ofNat 0)) = 0 then (some (.inl (x4 + 7, (s23, ex + k20)))) else (some (.inr (0, (s23, ex + k20))))) else (if (lg_cmp ((s23 564 0).toInt64) (Int64.ofNat 1)) = 0 then (some (.inl (x4 + 7, (s23, ex + k20)))) else (some (.inr (0, (s23, ex + k20)))))) else (some (.inl (x4 + 7, (s23, ex + k20))))) else (some (.inr (0, (s23, ex + k20)))))) else none else none else none) else (if ((X.2 x4.toNatClampNeg) &&& 63) = 11 then (if m_in (x4 + 1) X.1 = true then if m_in (x4 + 2) X.1 = true then g_wd (f231 s (X.2 (x4 + 1).toNatClampNeg) (X.2 (x4 + 2).toNatClampNeg)) fun v17 k19 s18 => g_bd (f178 s18 (X.2 (x4 + 1).toNatClampNeg) (X.2 (x4 + 2).toNatClampNeg)) fun v20 s21 => (f133 s21).bind fun v22 => if v22 = v17 then (if v17 = 0 then (if (lg_cmp ((s21 564 0).toInt64) v20.toInt64) = 0 then (some (.inl (x4 + 7, (s21, ex + k19)))) else (some (.inr (0, (s21, ex + k19))))) else (some (.inl (x4 + 7, (s21, ex + k19))))) else (some (.inr (0, (s21, ex + k19)))) else none else none) else (if ((X.2 x4.toNatClampNeg) &&& 63) = 12 then ((f90 s).bind fun v16 => g_bd (f183 s) fun v17 s18 => if v16 = v17 then (some (.inl (x4 + 7, (s18, ex)))) else (some (.inr (0, (s18, ex))))) else (if ((X.2 x4.toNatClampNeg) &&& 63) = 13 then (if m_in (x4 + 1) X.1 = true then if m_in (x4 + 2) X.1 = true then g_wd (f232 s (X.2 (x4 + 1).toNatClampNeg) (X.2 (x4 + 2).toNatClampNeg)) fun v19 k21 s20 => g_bd (f185 s20 (X.2 (x4 + 1).toNatClampNeg) (X.2 (x4 + 2).toNatClampNeg)) fun v22 s23 => (f133 s23).bind fun v24 => if v24 = v19 then (if v19 = 0 then (if (lg_cmp ((s23 564 0).toInt64) v22.toInt64) = 0 then (some (.inl (x4 + 7, (s23, ex + k21)))) else (some (.inr (0, (s23, ex + k21))))) else (some (.inl (x4 + 7, (s23, ex + k21))))) else (some (.inr (0, (s23, ex + k21)))) else none else none) else (if ((X.2 x4.toNatClampNeg) &&& 63) = 14 then (if m_in (x4 + 1) X.1 = true then g_wd (f233 s (X.2 (x4 + 1).toNatClampNeg)) fun v19 k21 s20 => g_bd (f186 s20 (X.2 (x4 + 1).toNatClampNeg)) fun v22 s23 => (f133 s23).bind fun v24 => if v24 = v19 then (if v19 = 0 then (if (lg_cmp ((s23 564 0).toInt64) v22.toInt64) = 0 then (some (.inl (x4 + 7, (s23, ex + k21)))) else (some (.inr (0, (s23, ex + k21))))) else (some (.inl (x4 + 7, (s23, ex + k21))))) else (some (.inr (0, (s23, ex + k21)))) else none) else (if ((X.2 x4.toNatClampNeg) &&& 63) = 15 then (if m_in (x4 + 1) X.1 = true then g_wd (f234 s (X.2 (x4 + 1).toNatClampNeg)) fun v20 k22 s21 => g_bd (f187 s21 (X.2 (x4 + 1).toNatClampNeg)) fun v23 s24 => (f133 s24).bind fun v25 => if v25 = v20 then (if v20 = 0 then (if (lg_cmp ((s24 564 0).toInt64) v23.toInt64) = 0 then (some (.inl (x4 + 7, (s24, ex + k22)))) else (some (.inr (0, (s24, ex + k22))))) else (some (.inl (x4 + 7, (s24, ex + k22))))) else (some (.inr (0, (s24, ex + k22)))) else none) else (if ((X.2 x4.toNatClampNeg) &&& 63) = 16 then (if m_in (x4 + 1) X.1 = true then g_wd (f235 s (X.2 (x4 + 1).toNatClampNeg)) fun v21 k23 s22 => g_bd (f188 s22 (X.2 (x4 + 1).toNatClampNeg)) fun v24 s25 => (f133 s25).bind fun v26 => if v26 = v21 then (if v21 = 0 then (if (lg_cmp ((s25 564 0).toInt64) v24.toInt64) = 0 then (some (.inl (x4 + 7, (s25, ex + k23)))) else (some (.inr (0, (s25, ex + k23))))) else (some (.inl (x4 + 7, (s25, ex + k23))))) else (some (.inr (0, (s25, ex + k23)))) else none) else (if ((X.2 x4.toNatClampNeg) &&& 63) = 17 then (if m_in (x4 + 1) X.1 = true then g_wd (f236 s (X.2 (x4 + 1).toNatClampNeg)) fun v22 k24 s23 => g_bd (f189 s23 (X.2 (x4 + 1).toNatClampNeg)) fun v25 s26 => (f133 s26).bind fun v27 => if v27 = v22 then (if v22 = 0 then (if (lg_cmp ((s26 564 0).toInt64) v25.toInt64) = 0 then (some (.inl (x4 + 7, (s26, ex + k24)))) else (some (.inr (0, (s26, ex + k24))))) else (some (.inl (x4 + 7, (s26, ex + k24))))) else (some (.inr (0, (s26, ex + k24)))) else none) else (if ((X.2 x4.toNatClampNeg) &&& 63) = 18 then (if m_in (x4 + 1) X.1 = true then g_wd (f237 s (X.2 (x4 + 1).toNatClampNeg)) fun v23 k25 s24 => g_bd (f190 s24 (X.2 (x4 + 1).toNatClampNeg)) fun v26 s27 => (f133 s27).bind fun v28 => if v28 = v23 then (if v23 = 0 then (if v26 = 0 then (if (lg_cmp ((s27 564 0).toInt64) (Int64.ofNat 0)) = 0 then (some (.inl (x4 + 7, (s27, ex + k25)))) else (some (.inr (0, (s27, ex + k25))))) else (if (lg_cmp ((s27 564 0).toInt64) (Int64.ofNat 1)) = 0 then (some (.inl (x4 + 7, (s27, ex + k25)))) else (some (.inr (0, (s27, ex + k25)))))) else (some (.inl (x4 + 7, (s27, ex + k25))))) else (some (.inr (0, (s27, ex + k25)))) else none) else (if ((X.2 x4.toNatClampNeg) &&& 63) = 19 then (if m_in (x4 + 1) X.1 = true then g_wd (f238 s (X.2 (x4 + 1).toNatClampNeg)) fun v24 k26 s25 => g_bd (f191 s25 (X.2 (x4 + 1).toNatClampNeg)) fun v27 s28 => (f133 s28).bind fun v29 => if v29 = v24 then (if v24 = 0 then (if (lg_cmp ((s28 564 0).toInt64) v27.toInt64) = 0 then (some (.inl (x4 + 7, (s28, ex + k26)))) else (some (.inr (0, (s28, ex + k26))))) else (some (.inl (x4 + 7, (s28, ex + k26))))) else (some (.inr (0, (s28, ex + k26)))) else none) else (if ((X.2 x4.toNatClampNeg) &&& 63) = 20 then (if m_in (x4 + 1) X.1 = true then if m_in (x4 + 2) X.1 = true then if m_in (x4 + 3) X.1 = true then g_wd (f239 s (X.2 (x4 + 1).toNatClampNeg) (X.2 (x4 + 2).toNatClampNeg) (X.2 (x4 + 3).toNatClampNeg)) fun v27 k29 s28 => g_bd (f192 s28 (X.2 (x4 + 1).toNatClampNeg) (X.2 (x4 + 2).toNatClampNeg) (X.2 (x4 + 3).toNatClampNeg)) fun v30 s31 => (f133 s31).bind fun v32 => if v32 = v27 then (if v27 = 0 then (if (lg_cmp ((s31 564 0).toInt64) v30.toInt64) = 0 then (some (.inl (x4 + 7, (s31, ex + k29)))) else (some (.inr (0, (s31, ex + k29))))) else (some (.inl (x4 + 7, (s31, ex + k29))))) else (some (.inr (0, (s31, ex + k29)))) else none else none else none) else (if ((X.2 x4.toNatClampNeg) &&& 63) = 21 then (if m_in (x4 + 1) X.1 = true then if m_in (x4 + 2) X.1 = true then g_wd (f240 s (X.2 (x4 + 1).toNatClampNeg) (X.2 (x4 + 2).toNatClampNeg)) fun v27 k29 s28 => g_bd (f197 s28 (X.2 (x4 + 1).toNatClampNeg) (X.2 (x4 + 2).toNatClampNeg)) fun v30 s31 => (f133 s31).bind fun v32 => if v32 = v27 then (if v27 = 0 then (if (lg_cmp ((s31 564 0).toInt64) v30.toInt64) = 0 then (some (.inl (x4 + 7, (s31, ex + k29)))) else (some (.inr (0, (s31, ex + k29))))) else (some (.inl (x4 + 7, (s31, ex + k29))))) else (some (.inr (0, (s31, ex + k29)))) else none else none) else (if ((X.2 x4.toNatClampNeg) &&& 63) = 22 then (if m_in (x4 + 1) X.1 = true then g_wd (f241 s (X.2 (x4 + 1).toNatClampNeg)) fun v27 k29 s28 => g_bd (f199 s28 (X.2 (x4 + 1).toNatClampNeg)) fun v30 s31 => (f133 s31).bind fun v32 => if v32 = v27 then (if v27 = 0 then (if (lg_cmp ((s31 564 0).toInt64) v30.toInt64) = 0 then (some (.inl (x4 + 7, (s31, ex + k29)))) else (some (.inr (0, (s31, ex + k29))))) else (some (.inl (x4 + 7, (s31, ex + k29))))) else (some (.inr (0, (s31, ex + k29)))) else none) else (if ((X.2 x4.toNatClampNeg) &&& 63) = 23 then (if m_in (x4 + 1) X.1 = true then g_wd (f242 s (X.2 (x4 + 1).toNatClampNeg)) fun v28 k30 s29 => g_bd (f200 s29 (X.2 (x4 + 1).toNatClampNeg)) fun v31 s32 => (f133 s32).bind fun v33 => if v33 = v28 then (if v28 = 0 then (if (lg_cmp ((s32 564 0).toInt64) v31.toInt64) = 0 then (some (.inl (x4 + 7, (s32, ex + k30)))) else (some (.inr (0, (s32, ex + k30))))) else (some (.inl (x4 + 7, (s32, ex + k30))))) else (some (.inr (0, (s32, ex + k30)))) else none) else (if ((X.2 x4.toNatClampNeg) &&& 63) = 24 then (if m_in (x4 + 1) X.1 = true then g_wd (f243 s (X.2 (x4 + 1).toNatClampNeg)) fun v29 k31 s30 => g_bd (f201 s30 (X.2 (x4 + 1).toNatClampNeg)) fun v32 s33 => (f133 s33).bind fun v34 => if v34 = v29 then (if v29 = 0 then (if (lg_cmp ((s33 564 0).toInt64) v32.toInt64) = 0 then (some (.inl (x4 + 7, (s33, ex + k31)))) else (some (.inr (0, (s33, ex + k31))))) else (some (.inl (x4 + 7, (s33, ex + k31))))) else (some (.inr (0, (s33, ex + k31)))) else none) else (if ((X.2 x4.toNatClampNeg) &&& 63) = 25 then (g_bd (f103 s) fun v29 s30 => g_bd (f205 s30) fun v31 s32 => if v29 = v31 then (some (.inl (x4 + 7, (s32, ex)))) else (some (.inr (0, (s32, ex))))) else (if ((X.2 x4.toNatClampNeg) &&& 63) = 26 then (if m_in (x4 + 1) X.1 = true then if m_in (x4 + 2) X.1 = true then if (X.2 (x4 + 2).toNatClampNeg) = 0 then (g_wd (f244 s (X.2 (x4 + 1).toNatClampNeg) 0) fun v33 k35 s34 => if (X.2 (x4 + 2).toNatClampNeg) = 0 then (g_bd (f206 s34 (X.2 (x4 + 1).toNatClampNeg) 0) fun v37 s38 => (f133 s38).bind fun v39 => if v39 = v33 then (if v33 = 0 then (if (lg_cmp ((s38 564 0).toInt64) v37.toInt64) = 0 then (some (.inl (x4 + 7, (s38, ex + k35)))) else (some (.inr (0, (s38, ex + k35))))) else (some (.inl (x4 + 7, (s38, ex + k35))))) else (some (.inr (0, (s38, ex + k35))))) else (g_bd (f206 s34 (X.2 (x4 + 1).toNatClampNeg) 1) fun v37 s38 => (f133 s38).bind fun v39 => if v39 = v33 then (if v33 = 0 then (if (lg_cmp ((s38 564 0).toInt64) v37.toInt64) = 0 then (some (.inl (x4 + 7, (s38, ex + k35)))) else (some (.inr (0, (s38, ex + k35))))) else (some (.inl (x4 + 7, (s38, ex + k35))))) else (some (.inr (0, (s38, ex + k35)))))) else (g_wd (f244 s (X.2 (x4 + 1).toNatClampNeg) 1) fun v33 k35 s34 => if (X.2 (x4 + 2).toNatClampNeg) = 0 then (g_bd (f206 s34 (X.2 (x4 + 1).toNatClampNeg) 0) fun v37 s38 => (f133 s38).bind fun v39 => if v39 = v33 then (if v33 = 0 then (if (lg_cmp ((s38 564 0).toInt64) v37.toInt64) = 0 then (some (.inl (x4 + 7, (s38, ex + k35)))) else (some (.inr (0, (s38, ex + k35))))) else (some (.inl (x4 + 7, (s38, ex + k35))))) else (some (.inr (0, (s38, ex + k35))))) else (g_bd (f206 s34 (X.2 (x4 + 1).toNatClampNeg) 1) fun v37 s38 => (f133 s38).bind fun v39 => if v39 = v33 then (if v33 = 0 then (if (lg_cmp ((s38 564 0).toInt64) v37.toInt64) = 0 then (some (.inl (x4 + 7, (s38, ex + k35)))) else (some (.inr (0, (s38, ex + k35))))) else (some (.inl (x4 + 7, (s38, ex + k35))))) else (some (.inr (0, (s38, ex + k35)))))) else none else none) else (if ((X.2 x4.toNatClampNeg) &&& 63) = 27 then (g_bd (f105 s) fun v31 s32 => g_bd (f208 s32) fun v33 s34 => if v31 = v33 then (some (.inl (x4 + 7, (s34, ex)))) else (some (.inr (0, (s34, ex))))) else (if ((X.2 x4.toNatClampNeg) &&& 63) = 28 then (if m_in (x4 + 1) X.1 = true then if m_in (x4 + 2) X.1 = true then g_wd (f245 s (X.2 (x4 + 1).toNatClampNeg) (X.2 (x4 + 2).toNatClampNeg)) fun v34 k36 s35 => g_bd (f209 s35 (X.2 (x4 + 1).toNatClampNeg) (X.2 (x4 + 2).toNatClampNeg)) fun v37 s38 => (f133 s38).bind fun v39 => if v39 = v34 then (if v34 = 0 then (if (lg_cmp ((s38 564 0).toInt64) v37.toInt64) = 0 then (some (.inl (x4 + 7, (s38, ex + k36)))) else (some (.inr (0, (s38, ex + k36))))) else (some (.inl (x4 + 7, (s38, ex + k36))))) else (some (.inr (0, (s38, ex + k36)))) else none else none) else (if ((X.2 x4.toNatClampNeg) &&& 63) = 29 then (if m_in (x4 + 1) X.1 = true then if m_in (x4 + 2) X.1 = true then g_wd (f246 s (X.2 (x4 + 1).toNatClampNeg) (X.2 (x4 + 2).toNatClampNeg)) fun v35 k37 s36 => g_bd (f210 s36 (X.2 (x4 + 1).toNatClampNeg) (X.2 (x4 + 2).toNatClampNeg)) fun v38 s39 => (f133 s39).bind fun v40 => if v40 = v35 then (if v35 = 0 then (if (lg_cmp ((s39 564 0).toInt64) v38.toInt64) = 0 then (some (.inl (x4 + 7, (s39, ex + k37)))) else (some (.inr (0, (s39, ex + k37))))) else (some (.inl (x4 + 7, (s39, ex + k37))))) else (some (.inr (0, (s39, ex + k37)))) else none else none) else (if ((X.2 x4.toNatClampNeg) &&& 63) = 30 then (if m_in (x4 + 1) X.1 = true then if m_in (x4 + 2) X.1 = true then g_wd (f247 s (X.2 (x4 + 1).toNatClampNeg) (X.2 (x4 + 2).toNatClampNeg)) fun v36 k38 s37 => g_bd (f211 s37 (X.2 (x4 + 1).toNatClampNeg) (X.2 (x4 + 2).toNatClampNeg)) fun v39 s40 => (f133 s40).bind fun v41 => if v41 = v36 then (if v36 = 0 then (if (lg_cmp ((s40 564 0).toInt64) v39.toInt64) = 0 then (some (.inl (x4 + 7, (s40, ex + k38)))) else (some (.inr (0, (s40, ex + k38))))) else (some (.inl (x4 + 7, (s40, ex + k38))))) else (some (.inr (0, (s40, ex + k38)))) else none else none) else (if ((X.2 x4.toNatClampNeg) &&& 63) = 31 then (if m_in (x4 + 1) X.1 = true then if m_in (x4 + 2) X.1 = true then g_wd (f248 s (X.2 (x4 + 1).toNatClampNeg) (X.2 (x4 + 2).toNatClampNeg)) fun v37 k39 s38 => g_bd (f212 s38 (X.2 (x4 + 1).toNatClampNeg) (X.2 (x4 + 2).toNatClampNeg)) fun v40 s41 => (f133 s41).bind fun v42 => if v42 = v37 then (if v37 = 0 then (if (lg_cmp ((s41 564 0).toInt64) v40.toInt64) = 0 then (some (.inl (x4 + 7, (s41, ex + k39)))) else (some (.inr (0, (s41, ex + k39))))) else (some (.inl (x4 + 7, (s41, ex + k39))))) else (some (.inr (0, (s41, ex + k39)))) else none else none) else (if ((X.2 x4.toNatClampNeg) &&& 63) = 32 then (g_bd (f110 s) fun v36 s37 => g_bd (f213 s37) fun v38 s39 => if v36 = v38 then (some (.inl (x4 + 7, (s39, ex)))) else (some (.inr (0, (s39, ex))))) else (if ((X.2 x4.toNatClampNeg) &&& 63) = 33 then (if m_in (x4 + 1) X.1 = true then if m_in (x4 + 2) X.1 = true then g_wd (f249 s (X.2 (x4 + 1).toNatClampNeg) (X.2 (x4 + 2).toNatClampNeg)) fun v39 k41 s40 => g_bd (f215 s40 (X.2 (x4 + 1).toNatClampNeg) (X.2 (x4 + 2).toNatClampNeg)) fun v42 s43 => (f133 s43).bind fun v44 => if v44 = v39 then (if v39 = 0 then (if (lg_cmp ((s43 564 0).toInt64) v42.toInt64) = 0 then (some (.inl (x4 + 7, (s43, ex + k41)))) else (some (.inr (0, (s43, ex + k41))))) else (some (.inl (x4 + 7, (s43, ex + k41))))) else (some (.inr (0, (s43, ex + k41)))) else none else none) else (if ((X.2 x4.toNatClampNeg) &&& 63) = 34 then (if m_in (x4 + 1) X.1 = true then if m_in (x4 + 2) X.1 = true then g_wd (f250 s (X.2 (x4 + 1).toNatClampNeg) (X.2 (x4 + 2).toNatClampNeg)) fun v40 k42 s41 => g_bd (f216 s41 (X.2 (x4 + 1).toNatClampNeg) (X.2 (x4 + 2).toNatClampNeg)) fun v43 s44 => (f133 s44).bind fun v45 => if v45 = v40 then (if v40 = 0 then (if (lg_cmp ((s44 564 0).toInt64) v43.toInt64) = 0 then (some (.inl (x4 + 7, (s44, ex + k42)))) else (some (.inr (0, (s44, ex + k42))))) else (some (.inl (x4 + 7, (s44, ex + k42))))) else (some (.inr (0, (s44, ex + k42)))) else none else none) else (if ((X.2 x4.toNatClampNeg) &&& 63) = 35 then (g_bd (f113 s) fun v39 s40 => g_bd (f219 s40) fun v41 s42 => if v39 = v41 then (some (.inl (x4 + 7, (s42, ex)))) else (some (.inr (0, (s42, ex))))) else (if ((X.2 x4.toNatClampNeg) &&& 63) = 36 then (g_bd (f114 s) fun v40 s41 => g_bd (f220 s41) fun v42 s43 => if v40 = v42 then (some (.inl (x4 + 7, (s43, ex)))) else (some (.inr (0, (s43, ex))))) else (if ((X.2 x4.toNatClampNeg) &&& 63) = 37 then (if m_in (x4 + 1) X.1 = true then (f115 s (X.2 (x4 + 1).toNatClampNeg)).bind fun v42 => g_bd (f221 s (X.2 (x4 + 1).toNatClampNeg)) fun v43 s44 => if v42 = v43 then (some (.inl (x4 + 7, (s44, ex)))) else (some (.inr (0, (s44, ex)))) else none) else (some (.inl (x4 + 7, (s, ex)))))))))))))))))))))))))))))))))))))))))) else none))
set_option maxHeartbeats 10000000 in
set_option maxRecDepth 100000 in
theorem P251 {d ex : Nat} {rr : m_R} {s : g_S} {x4 : Int32} {u5 u6 : Option Value} {z : (Int32 × (g_S × Nat)) ⊕ (Int32 × (g_S × Nat))} (H : f251 X s ex x4 = some z) (hd : 88 ≤ d) (K0 : ∀ S : Int32 × (g_S × Nat), z = .inl S → ∀ u5 u6 : Option Value, n_R X (d + 1) 251 13 [some (.ref 1000000), some (.ref 0), some (.ref 199), some (.ref 564), some (.int S.1), u5, u6] [] (g_M S.2.1 S.2.2) rr) (Kr : ∀ q, z = .inr q → g_rL q = rr) : n_R X (d + 1) 251 13 [some (.ref 1000000), some (.ref 0), some (.ref 199), some (.ref 564), some (.int x4), u5, u6] [] (g_M s ex) rr := by
  unfold f251 at H
  refine g_go 2 md_251 (i1 := 15) rfl ?_
  refine n_scl (n_q md_251 rfl) ?_
  refine g_go 2 md_251 (i1 := 18) rfl ?_
  by_cases h1 : ((Int32.ofNat X.1) - 7) < x4
  · rw [if_pos h1] at H
    refine n_cmpT (n_q md_251 rfl) (decide_eq_true h1) ?_
    refine g_go 1 md_251 (i1 := 1469) rfl ?_
    cases H
    rw [← Kr _ rfl]
    exact n_iret (n_q md_251 rfl) (Or.inr rfl)
  · rw [if_neg h1] at H
    refine n_cmpF (n_q md_251 rfl) (fun e1 => h1 (of_decide_eq_true e1)) ?_
    refine g_go 2 md_251 (i1 := 21) rfl ?_
    obtain ⟨h2, H⟩ := g_gd H
    refine n_scr (n_q md_251 rfl) h2 ?_
    refine g_go 2 md_251 (i1 := 24) rfl ?_
    refine n_sw (n_q md_251 rfl) ?_
    unfold m_sw
    by_cases h3 : ((X.2 x4.toNatClampNeg) &&& 63) = 0
    · rw [if_pos h3] at H ⊢
      refine g_go 5 md_251 (i1 := 30) rfl ?_
      obtain ⟨h4, H⟩ := g_gd H
      refine n_scr (n_q md_251 rfl) h4 ?_
      refine g_go 4 md_251 (i1 := 35) rfl ?_
      obtain ⟨h5, H⟩ := g_gd H
      refine n_scr (n_q md_251 rfl) h5 ?_
      refine g_go 4 md_251 (i1 := 40) rfl ?_
      obtain ⟨h6, H⟩ := g_gd H
      refine n_scr (n_q md_251 rfl) h6 ?_
      refine g_go 4 md_251 (i1 := 45) rfl ?_
      obtain ⟨h7, H⟩ := g_gd H
      refine n_scr (n_q md_251 rfl) h7 ?_
      refine g_go 4 md_251 (i1 := 50) rfl ?_
      obtain ⟨h8, H⟩ := g_gd H
      refine n_scr (n_q md_251 rfl) h8 ?_
      obtain ⟨v9, s10, hv9, H⟩ := g_bdp H
      refine n_callv (n_q md_251 rfl) (As := [.ref 0, .int (X.2 (x4 + 1).toNatClampNeg), .int (X.2 (x4 + 2).toNatClampNeg), .int (X.2 (x4 + 3).toNatClampNeg), .int (X.2 (x4 + 4).toNatClampNeg), .int (X.2 (x4 + 5).toNatClampNeg)]) (rest := []) rfl rfl (Nat.le_of_ble_eq_true rfl) rfl (g_recv (b := 0) rfl t_0 rfl) (C78 (by omega) hv9) ?_
      refine g_go 5 md_251 (i1 := 57) rfl ?_
      refine n_scr (n_q md_251 rfl) h4 ?_
      refine g_go 4 md_251 (i1 := 62) rfl ?_
      refine n_scr (n_q md_251 rfl) h5 ?_
      refine g_go 4 md_251 (i1 := 67) rfl ?_
      refine n_scr (n_q md_251 rfl) h6 ?_
      refine g_go 4 md_251 (i1 := 72) rfl ?_
      refine n_scr (n_q md_251 rfl) h7 ?_
      refine g_go 4 md_251 (i1 := 77) rfl ?_
      refine n_scr (n_q md_251 rfl) h8 ?_
      obtain ⟨v11, s12, hv11, H⟩ := g_bdp H
      refine n_callv (n_q md_251 rfl) (As := [.ref 199, .int (X.2 (x4 + 1).toNatClampNeg), .int (X.2 (x4 + 2).toNatClampNeg), .int (X.2 (x4 + 3).toNatClampNeg), .int (X.2 (x4 + 4).toNatClampNeg), .int (X.2 (x4 + 5).toNatClampNeg)]) (rest := [.int v9]) rfl rfl (Nat.le_of_ble_eq_true rfl) rfl (g_recv (b := 0) rfl t_199 rfl) (C137 (by omega) hv11) ?_
      by_cases h13 : v9 = v11
      · rw [if_pos h13] at H
        refine n_cmpT (n_q md_251 rfl) (decide_eq_true h13) ?_
        refine g_go 2 md_251 (i1 := 13) (ls1 := [some (.ref 1000000), some (.ref 0), some (.ref 199), some (.ref 564), some (.int (x4 + 7)), u5, u6]) rfl ?_
        cases H
        exact K0 (x4 + 7, (s12, ex)) rfl _ _
      · rw [if_neg h13] at H
        refine n_cmpF (n_q md_251 rfl) (fun e1 => h13 (of_decide_eq_true e1)) ?_
        refine g_go 1 md_251 (i1 := 81) rfl ?_
        cases H
        rw [← Kr _ rfl]
        exact n_iret (n_q md_251 rfl) (Or.inr rfl)
    · rw [if_neg h3] at H ⊢
      unfold m_sw
      by_cases h4 : ((X.2 x4.toNatClampNeg) &&& 63) = 1
      · rw [if_pos h4] at H ⊢
        refine g_go 5 md_251 (i1 := 87) rfl ?_
        obtain ⟨h5, H⟩ := g_gd H
        refine n_scr (n_q md_251 rfl) h5 ?_
        refine g_go 1 md_251 (i1 := 89) rfl ?_
        obtain ⟨v6, k8, s7, hv6, H⟩ := g_wdp H
        refine n_callv (n_q md_251 rfl) (As := [.ref 0, .int (X.2 (x4 + 1).toNatClampNeg), .ref 564]) (rest := []) rfl rfl (Nat.le_of_ble_eq_true rfl) rfl rfl (C222 (by omega) hv6) ?_
        refine g_go 6 md_251 (i1 := 96) (ls1 := [some (.ref 1000000), some (.ref 0), some (.ref 199), some (.ref 564), some (.int x4), some (.int v6), u6]) rfl ?_
        refine n_scr (n_q md_251 rfl) h5 ?_
        obtain ⟨v9, s10, hv9, H⟩ := g_bdp H
        refine n_callv (n_q md_251 rfl) (As := [.ref 199, .int (X.2 (x4 + 1).toNatClampNeg)]) (rest := []) rfl rfl (Nat.le_of_ble_eq_true rfl) rfl (g_recv (b := 0) rfl t_199 rfl) (C165 (by omega) hv9) ?_
        refine g_go 2 md_251 (i1 := 100) (ls1 := [some (.ref 1000000), some (.ref 0), some (.ref 199), some (.ref 564), some (.int x4), some (.int v6), some (.int v9)]) rfl ?_
        obtain ⟨v11, hv11, H⟩ := g_bind H
        refine n_callv (n_q md_251 rfl) (As := [.ref 199]) (rest := []) rfl rfl (Nat.le_of_ble_eq_true rfl) rfl (g_recv (b := 0) rfl t_199 rfl) (C133 (by omega) hv11) ?_
        refine g_go 1 md_251 (i1 := 102) rfl ?_
        by_cases h12 : v11 = v6
        · rw [if_pos h12] at H
          refine n_cmpT (n_q md_251 rfl) (decide_eq_true h12) ?_
          refine g_go 1 md_251 (i1 := 106) rfl ?_
          by_cases h13 : v6 = 0
          · rw [if_pos h13] at H
            refine n_ifF (n_q md_251 rfl) (fun e1 => of_decide_eq_true e1 h13) ?_
            refine g_go 2 md_251 (i1 := 109) rfl ?_
            refine g_lald (n_q md_251 rfl) ?_
            refine g_go 2 md_251 (i1 := 112) rfl ?_
            refine n_go (n_q md_251 rfl) (fun _ => rfl) ?_
            by_cases h14 : (lg_cmp ((s10 564 0).toInt64) v9.toInt64) = 0
            · rw [if_pos h14] at H
              refine n_ifT (n_q md_251 rfl) (decide_eq_true h14) ?_
              refine g_go 3 md_251 (i1 := 13) (ls1 := [some (.ref 1000000), some (.ref 0), some (.ref 199), some (.ref 564), some (.int (x4 + 7)), some (.int v6), some (.int v9)]) rfl ?_
              cases H
              exact K0 (x4 + 7, (s10, ex + k8)) rfl _ _
            · rw [if_neg h14] at H
              refine n_ifF (n_q md_251 rfl) (fun e1 => h14 (of_decide_eq_true e1)) ?_
              refine g_go 1 md_251 (i1 := 115) rfl ?_
              cases H
              rw [← Kr _ rfl]
              exact n_iret (n_q md_251 rfl) (Or.inr rfl)
          · rw [if_neg h13] at H
            refine n_ifT (n_q md_251 rfl) (decide_eq_true h13) ?_
            refine g_go 3 md_251 (i1 := 13) (ls1 := [some (.ref 1000000), some (.ref 0), some (.ref 199), some (.ref 564), some (.int (x4 + 7)), some (.int v6), some (.int v9)]) rfl ?_
            cases H
            exact K0 (x4 + 7, (s10, ex + k8)) rfl _ _
        · rw [if_neg h12] at H
          refine n_cmpF (n_q md_251 rfl) (fun e1 => h12 (of_decide_eq_true e1)) ?_
          refine g_go 1 md_251 (i1 := 104) rfl ?_
          cases H
          rw [← Kr _ rfl]
          exact n_iret (n_q md_251 rfl) (Or.inr rfl)
      · rw [if_neg h4] at H ⊢
        unfold m_sw
        by_cases h5 : ((X.2 x4.toNatClampNeg) &&& 63) = 2
        · rw [if_pos h5] at H ⊢
          refine g_go 1 md_251 (i1 := 118) rfl ?_
          obtain ⟨v6, hv6, H⟩ := g_bind H
          refine n_callv (n_q md_251 rfl) (As := [.ref 0]) (rest := []) rfl rfl (Nat.le_of_ble_eq_true rfl) rfl (g_recv (b := 0) rfl t_0 rfl) (C80 (by omega) hv6) ?_
          refine g_go 1 md_251 (i1 := 120) rfl ?_
          obtain ⟨v7, s8, hv7, H⟩ := g_bdp H
          refine n_callv (n_q md_251 rfl) (As := [.ref 199]) (rest := [.int v6]) rfl rfl (Nat.le_of_ble_eq_true rfl) rfl (g_recv (b := 0) rfl t_199 rfl) (C166 (by omega) hv7) ?_
          by_cases h9 : v6 = v7
          · rw [if_pos h9] at H
            refine n_cmpT (n_q md_251 rfl) (decide_eq_true h9) ?_
            refine g_go 2 md_251 (i1 := 13) (ls1 := [some (.ref 1000000), some (.ref 0), some (.ref 199), some (.ref 564), some (.int (x4 + 7)), u5, u6]) rfl ?_
            cases H
            exact K0 (x4 + 7, (s8, ex)) rfl _ _
          · rw [if_neg h9] at H
            refine n_cmpF (n_q md_251 rfl) (fun e1 => h9 (of_decide_eq_true e1)) ?_
            refine g_go 1 md_251 (i1 := 123) rfl ?_
            cases H
            rw [← Kr _ rfl]
            exact n_iret (n_q md_251 rfl) (Or.inr rfl)
        · rw [if_neg h5] at H ⊢
          unfold m_sw
          by_cases h6 : ((X.2 x4.toNatClampNeg) &&& 63) = 3
          · rw [if_pos h6] at H ⊢
            refine g_go 5 md_251 (i1 := 129) rfl ?_
            obtain ⟨h7, H⟩ := g_gd H
            refine n_scr (n_q md_251 rfl) h7 ?_
            refine g_go 1 md_251 (i1 := 131) rfl ?_
            obtain ⟨v8, k10, s9, hv8, H⟩ := g_wdp H
            refine n_callv (n_q md_251 rfl) (As := [.ref 0, .int (X.2 (x4 + 1).toNatClampNeg), .ref 564]) (rest := []) rfl rfl (Nat.le_of_ble_eq_true rfl) rfl rfl (C223 (by omega) hv8) ?_
            refine g_go 6 md_251 (i1 := 138) (ls1 := [some (.ref 1000000), some (.ref 0), some (.ref 199), some (.ref 564), some (.int x4), some (.int v8), u6]) rfl ?_
            refine n_scr (n_q md_251 rfl) h7 ?_
            obtain ⟨v11, s12, hv11, H⟩ := g_bdp H
            refine n_callv (n_q md_251 rfl) (As := [.ref 199, .int (X.2 (x4 + 1).toNatClampNeg)]) (rest := []) rfl rfl (Nat.le_of_ble_eq_true rfl) rfl (g_recv (b := 0) rfl t_199 rfl) (C167 (by omega) hv11) ?_
            refine g_go 2 md_251 (i1 := 142) (ls1 := [some (.ref 1000000), some (.ref 0), some (.ref 199), some (.ref 564), some (.int x4), some (.int v8), some (.int v11)]) rfl ?_
            obtain ⟨v13, hv13, H⟩ := g_bind H
            refine n_callv (n_q md_251 rfl) (As := [.ref 199]) (rest := []) rfl rfl (Nat.le_of_ble_eq_true rfl) rfl (g_recv (b := 0) rfl t_199 rfl) (C133 (by omega) hv13) ?_
            refine g_go 1 md_251 (i1 := 144) rfl ?_
            by_cases h14 : v13 = v8
            · rw [if_pos h14] at H
              refine n_cmpT (n_q md_251 rfl) (decide_eq_true h14) ?_
              refine g_go 1 md_251 (i1 := 148) rfl ?_
              by_cases h15 : v8 = 0
              · rw [if_pos h15] at H
                refine n_ifF (n_q md_251 rfl) (fun e1 => of_decide_eq_true e1 h15) ?_
                refine g_go 2 md_251 (i1 := 151) rfl ?_
                refine g_lald (n_q md_251 rfl) ?_
                refine g_go 2 md_251 (i1 := 154) rfl ?_
                refine n_go (n_q md_251 rfl) (fun _ => rfl) ?_
                by_cases h16 : (lg_cmp ((s12 564 0).toInt64) v11.toInt64) = 0
                · rw [if_pos h16] at H
                  refine n_ifT (n_q md_251 rfl) (decide_eq_true h16) ?_
                  refine g_go 3 md_251 (i1 := 13) (ls1 := [some (.ref 1000000), some (.ref 0), some (.ref 199), some (.ref 564), some (.int (x4 + 7)), some (.int v8), some (.int v11)]) rfl ?_
                  cases H
                  exact K0 (x4 + 7, (s12, ex + k10)) rfl _ _
                · rw [if_neg h16] at H
                  refine n_ifF (n_q md_251 rfl) (fun e1 => h16 (of_decide_eq_true e1)) ?_
                  refine g_go 1 md_251 (i1 := 157) rfl ?_
                  cases H
                  rw [← Kr _ rfl]
                  exact n_iret (n_q md_251 rfl) (Or.inr rfl)
              · rw [if_neg h15] at H
                refine n_ifT (n_q md_251 rfl) (decide_eq_true h15) ?_
                refine g_go 3 md_251 (i1 := 13) (ls1 := [some (.ref 1000000), some (.ref 0), some (.ref 199), some (.ref 564), some (.int (x4 + 7)), some (.int v8), some (.int v11)]) rfl ?_
                cases H
                exact K0 (x4 + 7, (s12, ex + k10)) rfl _ _
            · rw [if_neg h14] at H
              refine n_cmpF (n_q md_251 rfl) (fun e1 => h14 (of_decide_eq_true e1)) ?_
              refine g_go 1 md_251 (i1 := 146) rfl ?_
              cases H
              rw [← Kr _ rfl]
              exact n_iret (n_q md_251 rfl) (Or.inr rfl)
          · rw [if_neg h6] at H ⊢
            unfold m_sw
            by_cases h7 : ((X.2 x4.toNatClampNeg) &&& 63) = 4
            · rw [if_pos h7] at H ⊢
              refine g_go 5 md_251 (i1 := 164) rfl ?_
              obtain ⟨h8, H⟩ := g_gd H
              refine n_scr (n_q md_251 rfl) h8 ?_
              refine g_go 4 md_251 (i1 := 169) rfl ?_
              obtain ⟨h9, H⟩ := g_gd H
              refine n_scr (n_q md_251 rfl) h9 ?_
              refine g_go 4 md_251 (i1 := 174) rfl ?_
              obtain ⟨h10, H⟩ := g_gd H
              refine n_scr (n_q md_251 rfl) h10 ?_
              refine g_go 4 md_251 (i1 := 179) rfl ?_
              obtain ⟨h11, H⟩ := g_gd H
              refine n_scr (n_q md_251 rfl) h11 ?_
              refine g_go 4 md_251 (i1 := 184) rfl ?_
              obtain ⟨h12, H⟩ := g_gd H
              refine n_scr (n_q md_251 rfl) h12 ?_
              refine g_go 4 md_251 (i1 := 189) rfl ?_
              obtain ⟨h13, H⟩ := g_gd H
              refine n_scr (n_q md_251 rfl) h13 ?_
              refine g_go 1 md_251 (i1 := 191) rfl ?_
              obtain ⟨v14, k16, s15, hv14, H⟩ := g_wdp H
              refine n_callv (n_q md_251 rfl) (As := [.ref 0, .int (X.2 (x4 + 1).toNatClampNeg), .int (X.2 (x4 + 2).toNatClampNeg), .int (X.2 (x4 + 3).toNatClampNeg), .int (X.2 (x4 + 4).toNatClampNeg), .int (X.2 (x4 + 5).toNatClampNeg), .int (X.2 (x4 + 6).toNatClampNeg), .ref 564]) (rest := []) rfl rfl (Nat.le_of_ble_eq_true rfl) rfl rfl (C224 (by omega) hv14) ?_
              refine g_go 6 md_251 (i1 := 198) (ls1 := [some (.ref 1000000), some (.ref 0), some (.ref 199), some (.ref 564), some (.int x4), some (.int v14), u6]) rfl ?_
              refine n_scr (n_q md_251 rfl) h8 ?_
              refine g_go 4 md_251 (i1 := 203) rfl ?_
              refine n_scr (n_q md_251 rfl) h9 ?_
              refine g_go 4 md_251 (i1 := 208) rfl ?_
              refine n_scr (n_q md_251 rfl) h10 ?_
              refine g_go 4 md_251 (i1 := 213) rfl ?_
              refine n_scr (n_q md_251 rfl) h11 ?_
              refine g_go 4 md_251 (i1 := 218) rfl ?_
              refine n_scr (n_q md_251 rfl) h12 ?_
              refine g_go 4 md_251 (i1 := 223) rfl ?_
              refine n_scr (n_q md_251 rfl) h13 ?_
              obtain ⟨v17, s18, hv17, H⟩ := g_bdp H
              refine n_callv (n_q md_251 rfl) (As := [.ref 199, .int (X.2 (x4 + 1).toNatClampNeg), .int (X.2 (x4 + 2).toNatClampNeg), .int (X.2 (x4 + 3).toNatClampNeg), .int (X.2 (x4 + 4).toNatClampNeg), .int (X.2 (x4 + 5).toNatClampNeg), .int (X.2 (x4 + 6).toNatClampNeg)]) (rest := []) rfl rfl (Nat.le_of_ble_eq_true rfl) rfl (g_recv (b := 0) rfl t_199 rfl) (C170 (by omega) hv17) ?_
              refine g_go 2 md_251 (i1 := 227) (ls1 := [some (.ref 1000000), some (.ref 0), some (.ref 199), some (.ref 564), some (.int x4), some (.int v14), some (.int v17)]) rfl ?_
              obtain ⟨v19, hv19, H⟩ := g_bind H
              refine n_callv (n_q md_251 rfl) (As := [.ref 199]) (rest := []) rfl rfl (Nat.le_of_ble_eq_true rfl) rfl (g_recv (b := 0) rfl t_199 rfl) (C133 (by omega) hv19) ?_
              refine g_go 1 md_251 (i1 := 229) rfl ?_
              by_cases h20 : v19 = v14
              · rw [if_pos h20] at H
                refine n_cmpT (n_q md_251 rfl) (decide_eq_true h20) ?_
                refine g_go 1 md_251 (i1 := 233) rfl ?_
                by_cases h21 : v14 = 0
                · rw [if_pos h21] at H
                  refine n_ifF (n_q md_251 rfl) (fun e1 => of_decide_eq_true e1 h21) ?_
                  refine g_go 2 md_251 (i1 := 236) rfl ?_
                  refine g_lald (n_q md_251 rfl) ?_
                  refine g_go 2 md_251 (i1 := 239) rfl ?_
                  refine n_go (n_q md_251 rfl) (fun _ => rfl) ?_
                  by_cases h22 : (lg_cmp ((s18 564 0).toInt64) v17.toInt64) = 0
                  · rw [if_pos h22] at H
                    refine n_ifT (n_q md_251 rfl) (decide_eq_true h22) ?_
                    refine g_go 3 md_251 (i1 := 13) (ls1 := [some (.ref 1000000), some (.ref 0), some (.ref 199), some (.ref 564), some (.int (x4 + 7)), some (.int v14), some (.int v17)]) rfl ?_
                    cases H
                    exact K0 (x4 + 7, (s18, ex + k16)) rfl _ _
                  · rw [if_neg h22] at H
                    refine n_ifF (n_q md_251 rfl) (fun e1 => h22 (of_decide_eq_true e1)) ?_
                    refine g_go 1 md_251 (i1 := 242) rfl ?_
                    cases H
                    rw [← Kr _ rfl]
                    exact n_iret (n_q md_251 rfl) (Or.inr rfl)
                · rw [if_neg h21] at H
                  refine n_ifT (n_q md_251 rfl) (decide_eq_true h21) ?_
                  refine g_go 3 md_251 (i1 := 13) (ls1 := [some (.ref 1000000), some (.ref 0), some (.ref 199), some (.ref 564), some (.int (x4 + 7)), some (.int v14), some (.int v17)]) rfl ?_
                  cases H
                  exact K0 (x4 + 7, (s18, ex + k16)) rfl _ _
              · rw [if_neg h20] at H
                refine n_cmpF (n_q md_251 rfl) (fun e1 => h20 (of_decide_eq_true e1)) ?_
                refine g_go 1 md_251 (i1 := 231) rfl ?_
                cases H
                rw [← Kr _ rfl]
                exact n_iret (n_q md_251 rfl) (Or.inr rfl)
            · rw [if_neg h7] at H ⊢
              unfold m_sw
              by_cases h8 : ((X.2 x4.toNatClampNeg) &&& 63) = 5
              · rw [if_pos h8] at H ⊢
                refine g_go 5 md_251 (i1 := 249) rfl ?_
                obtain ⟨h9, H⟩ := g_gd H
                refine n_scr (n_q md_251 rfl) h9 ?_
                refine g_go 4 md_251 (i1 := 254) rfl ?_
                obtain ⟨h10, H⟩ := g_gd H
                refine n_scr (n_q md_251 rfl) h10 ?_
                refine g_go 4 md_251 (i1 := 259) rfl ?_
                obtain ⟨h11, H⟩ := g_gd H
                refine n_scr (n_q md_251 rfl) h11 ?_
                refine g_go 1 md_251 (i1 := 261) rfl ?_
                obtain ⟨v12, k14, s13, hv12, H⟩ := g_wdp H
                refine n_callv (n_q md_251 rfl) (As := [.ref 0, .int (X.2 (x4 + 1).toNatClampNeg), .int (X.2 (x4 + 2).toNatClampNeg), .int (X.2 (x4 + 3).toNatClampNeg), .ref 564]) (rest := []) rfl rfl (Nat.le_of_ble_eq_true rfl) rfl rfl (C225 (by omega) hv12) ?_
                refine g_go 6 md_251 (i1 := 268) (ls1 := [some (.ref 1000000), some (.ref 0), some (.ref 199), some (.ref 564), some (.int x4), some (.int v12), u6]) rfl ?_
                refine n_scr (n_q md_251 rfl) h9 ?_
                refine g_go 4 md_251 (i1 := 273) rfl ?_
                refine n_scr (n_q md_251 rfl) h10 ?_
                refine g_go 4 md_251 (i1 := 278) rfl ?_
                refine n_scr (n_q md_251 rfl) h11 ?_
                obtain ⟨v15, s16, hv15, H⟩ := g_bdp H
                refine n_callv (n_q md_251 rfl) (As := [.ref 199, .int (X.2 (x4 + 1).toNatClampNeg), .int (X.2 (x4 + 2).toNatClampNeg), .int (X.2 (x4 + 3).toNatClampNeg)]) (rest := []) rfl rfl (Nat.le_of_ble_eq_true rfl) rfl (g_recv (b := 0) rfl t_199 rfl) (C171 (by omega) hv15) ?_
                refine g_go 2 md_251 (i1 := 282) (ls1 := [some (.ref 1000000), some (.ref 0), some (.ref 199), some (.ref 564), some (.int x4), some (.int v12), some (.int v15)]) rfl ?_
                obtain ⟨v17, hv17, H⟩ := g_bind H
                refine n_callv (n_q md_251 rfl) (As := [.ref 199]) (rest := []) rfl rfl (Nat.le_of_ble_eq_true rfl) rfl (g_recv (b := 0) rfl t_199 rfl) (C133 (by omega) hv17) ?_
                refine g_go 1 md_251 (i1 := 284) rfl ?_
                by_cases h18 : v17 = v12
                · rw [if_pos h18] at H
                  refine n_cmpT (n_q md_251 rfl) (decide_eq_true h18) ?_
                  refine g_go 1 md_251 (i1 := 288) rfl ?_
                  by_cases h19 : v12 = 0
                  · rw [if_pos h19] at H
                    refine n_ifF (n_q md_251 rfl) (fun e1 => of_decide_eq_true e1 h19) ?_
                    refine g_go 2 md_251 (i1 := 291) rfl ?_
                    refine g_lald (n_q md_251 rfl) ?_
                    refine g_go 1 md_251 (i1 := 293) rfl ?_
                    by_cases h20 : v15 = 0
                    · rw [if_pos h20] at H
                      refine n_ifT (n_q md_251 rfl) (decide_eq_true h20) ?_
                      refine g_go 1 md_251 (i1 := 297) rfl ?_
                      refine n_go (n_q md_251 rfl) (fun _ => rfl) ?_
                      by_cases h21 : (lg_cmp ((s16 564 0).toInt64) (Int64.ofNat 0)) = 0
                      · rw [if_pos h21] at H
                        refine n_ifT (n_q md_251 rfl) (decide_eq_true h21) ?_
                        refine g_go 3 md_251 (i1 := 13) (ls1 := [some (.ref 1000000), some (.ref 0), some (.ref 199), some (.ref 564), some (.int (x4 + 7)), some (.int v12), some (.int v15)]) rfl ?_
                        cases H
                        exact K0 (x4 + 7, (s16, ex + k14)) rfl _ _
                      · rw [if_neg h21] at H
                        refine n_ifF (n_q md_251 rfl) (fun e1 => h21 (of_decide_eq_true e1)) ?_
                        refine g_go 1 md_251 (i1 := 300) rfl ?_
                        cases H
                        rw [← Kr _ rfl]
                        exact n_iret (n_q md_251 rfl) (Or.inr rfl)
                    · rw [if_neg h20] at H
                      refine n_ifF (n_q md_251 rfl) (fun e1 => h20 (of_decide_eq_true e1)) ?_
                      refine g_go 2 md_251 (i1 := 297) rfl ?_
                      refine n_go (n_q md_251 rfl) (fun _ => rfl) ?_
                      by_cases h21 : (lg_cmp ((s16 564 0).toInt64) (Int64.ofNat 1)) = 0
                      · rw [if_pos h21] at H
                        refine n_ifT (n_q md_251 rfl) (decide_eq_true h21) ?_
                        refine g_go 3 md_251 (i1 := 13) (ls1 := [some (.ref 1000000), some (.ref 0), some (.ref 199), some (.ref 564), some (.int (x4 + 7)), some (.int v12), some (.int v15)]) rfl ?_
                        cases H
                        exact K0 (x4 + 7, (s16, ex + k14)) rfl _ _
                      · rw [if_neg h21] at H
                        refine n_ifF (n_q md_251 rfl) (fun e1 => h21 (of_decide_eq_true e1)) ?_
                        refine g_go 1 md_251 (i1 := 300) rfl ?_
                        cases H
                        rw [← Kr _ rfl]
                        exact n_iret (n_q md_251 rfl) (Or.inr rfl)
                  · rw [if_neg h19] at H
                    refine n_ifT (n_q md_251 rfl) (decide_eq_true h19) ?_
                    refine g_go 3 md_251 (i1 := 13) (ls1 := [some (.ref 1000000), some (.ref 0), some (.ref 199), some (.ref 564), some (.int (x4 + 7)), some (.int v12), some (.int v15)]) rfl ?_
                    cases H
                    exact K0 (x4 + 7, (s16, ex + k14)) rfl _ _
                · rw [if_neg h18] at H
                  refine n_cmpF (n_q md_251 rfl) (fun e1 => h18 (of_decide_eq_true e1)) ?_
                  refine g_go 1 md_251 (i1 := 286) rfl ?_
                  cases H
                  rw [← Kr _ rfl]
                  exact n_iret (n_q md_251 rfl) (Or.inr rfl)
              · rw [if_neg h8] at H ⊢
                unfold m_sw
                by_cases h9 : ((X.2 x4.toNatClampNeg) &&& 63) = 6
                · rw [if_pos h9] at H ⊢
                  refine g_go 5 md_251 (i1 := 307) rfl ?_
                  obtain ⟨h10, H⟩ := g_gd H
                  refine n_scr (n_q md_251 rfl) h10 ?_
                  refine g_go 4 md_251 (i1 := 312) rfl ?_
                  obtain ⟨h11, H⟩ := g_gd H
                  refine n_scr (n_q md_251 rfl) h11 ?_
                  refine g_go 4 md_251 (i1 := 317) rfl ?_
                  obtain ⟨h12, H⟩ := g_gd H
                  refine n_scr (n_q md_251 rfl) h12 ?_
                  refine g_go 4 md_251 (i1 := 322) rfl ?_
                  obtain ⟨h13, H⟩ := g_gd H
                  refine n_scr (n_q md_251 rfl) h13 ?_
                  refine g_go 4 md_251 (i1 := 327) rfl ?_
                  obtain ⟨h14, H⟩ := g_gd H
                  refine n_scr (n_q md_251 rfl) h14 ?_
                  by_cases h15 : (X.2 (x4 + 5).toNatClampNeg) = 0
                  · rw [if_pos h15] at H
                    refine n_ifT (n_q md_251 rfl) (decide_eq_true h15) ?_
                    refine g_go 2 md_251 (i1 := 333) rfl ?_
                    obtain ⟨v16, k18, s17, hv16, H⟩ := g_wdp H
                    refine n_callv (n_q md_251 rfl) (As := [.ref 0, .int (X.2 (x4 + 1).toNatClampNeg), .int (X.2 (x4 + 2).toNatClampNeg), .int (X.2 (x4 + 3).toNatClampNeg), .int (X.2 (x4 + 4).toNatClampNeg), .int 0, .ref 564]) (rest := []) rfl rfl (Nat.le_of_ble_eq_true rfl) rfl rfl (C226 (by omega) hv16) ?_
                    refine g_go 6 md_251 (i1 := 340) (ls1 := [some (.ref 1000000), some (.ref 0), some (.ref 199), some (.ref 564), some (.int x4), some (.int v16), u6]) rfl ?_
                    refine n_scr (n_q md_251 rfl) h10 ?_
                    refine g_go 4 md_251 (i1 := 345) rfl ?_
                    refine n_scr (n_q md_251 rfl) h11 ?_
                    refine g_go 4 md_251 (i1 := 350) rfl ?_
                    refine n_scr (n_q md_251 rfl) h12 ?_
                    refine g_go 4 md_251 (i1 := 355) rfl ?_
                    refine n_scr (n_q md_251 rfl) h13 ?_
                    refine g_go 4 md_251 (i1 := 360) rfl ?_
                    refine n_scr (n_q md_251 rfl) h14 ?_
                    by_cases h19 : (X.2 (x4 + 5).toNatClampNeg) = 0
                    · rw [if_pos h19] at H
                      refine n_ifT (n_q md_251 rfl) (decide_eq_true h19) ?_
                      refine g_go 1 md_251 (i1 := 365) rfl ?_
                      obtain ⟨v20, s21, hv20, H⟩ := g_bdp H
                      refine n_callv (n_q md_251 rfl) (As := [.ref 199, .int (X.2 (x4 + 1).toNatClampNeg), .int (X.2 (x4 + 2).toNatClampNeg), .int (X.2 (x4 + 3).toNatClampNeg), .int (X.2 (x4 + 4).toNatClampNeg), .int 0]) (rest := []) rfl rfl (Nat.le_of_ble_eq_true rfl) rfl (g_recv (b := 0) rfl t_199 rfl) (C172 (by omega) hv20) ?_
                      refine g_go 2 md_251 (i1 := 368) (ls1 := [some (.ref 1000000), some (.ref 0), some (.ref 199), some (.ref 564), some (.int x4), some (.int v16), some (.int v20)]) rfl ?_
                      obtain ⟨v22, hv22, H⟩ := g_bind H
                      refine n_callv (n_q md_251 rfl) (As := [.ref 199]) (rest := []) rfl rfl (Nat.le_of_ble_eq_true rfl) rfl (g_recv (b := 0) rfl t_199 rfl) (C133 (by omega) hv22) ?_
                      refine g_go 1 md_251 (i1 := 370) rfl ?_
                      by_cases h23 : v22 = v16
                      · rw [if_pos h23] at H
                        refine n_cmpT (n_q md_251 rfl) (decide_eq_true h23) ?_
                        refine g_go 1 md_251 (i1 := 374) rfl ?_
                        by_cases h24 : v16 = 0
                        · rw [if_pos h24] at H
                          refine n_ifF (n_q md_251 rfl) (fun e1 => of_decide_eq_true e1 h24) ?_
                          refine g_go 2 md_251 (i1 := 377) rfl ?_
                          refine g_lald (n_q md_251 rfl) ?_
                          refine g_go 2 md_251 (i1 := 380) rfl ?_
                          refine n_go (n_q md_251 rfl) (fun _ => rfl) ?_
                          by_cases h25 : (lg_cmp ((s21 564 0).toInt64) v20.toInt64) = 0
                          · rw [if_pos h25] at H
                            refine n_ifT (n_q md_251 rfl) (decide_eq_true h25) ?_
                            refine g_go 3 md_251 (i1 := 13) (ls1 := [some (.ref 1000000), some (.ref 0), some (.ref 199), some (.ref 564), some (.int (x4 + 7)), some (.int v16), some (.int v20)]) rfl ?_
                            cases H
                            exact K0 (x4 + 7, (s21, ex + k18)) rfl _ _
                          · rw [if_neg h25] at H
                            refine n_ifF (n_q md_251 rfl) (fun e1 => h25 (of_decide_eq_true e1)) ?_
                            refine g_go 1 md_251 (i1 := 383) rfl ?_
                            cases H
                            rw [← Kr _ rfl]
                            exact n_iret (n_q md_251 rfl) (Or.inr rfl)
                        · rw [if_neg h24] at H
                          refine n_ifT (n_q md_251 rfl) (decide_eq_true h24) ?_
                          refine g_go 3 md_251 (i1 := 13) (ls1 := [some (.ref 1000000), some (.ref 0), some (.ref 199), some (.ref 564), some (.int (x4 + 7)), some (.int v16), some (.int v20)]) rfl ?_
                          cases H
                          exact K0 (x4 + 7, (s21, ex + k18)) rfl _ _
                      · rw [if_neg h23] at H
                        refine n_cmpF (n_q md_251 rfl) (fun e1 => h23 (of_decide_eq_true e1)) ?_
                        refine g_go 1 md_251 (i1 := 372) rfl ?_
                        cases H
                        rw [← Kr _ rfl]
                        exact n_iret (n_q md_251 rfl) (Or.inr rfl)
                    · rw [if_neg h19] at H
                      refine n_ifF (n_q md_251 rfl) (fun e1 => h19 (of_decide_eq_true e1)) ?_
                      refine g_go 2 md_251 (i1 := 365) rfl ?_
                      obtain ⟨v20, s21, hv20, H⟩ := g_bdp H
                      refine n_callv (n_q md_251 rfl) (As := [.ref 199, .int (X.2 (x4 + 1).toNatClampNeg), .int (X.2 (x4 + 2).toNatClampNeg), .int (X.2 (x4 + 3).toNatClampNeg), .int (X.2 (x4 + 4).toNatClampNeg), .int 1]) (rest := []) rfl rfl (Nat.le_of_ble_eq_true rfl) rfl (g_recv (b := 0) rfl t_199 rfl) (C172 (by omega) hv20) ?_
                      refine g_go 2 md_251 (i1 := 368) (ls1 := [some (.ref 1000000), some (.ref 0), some (.ref 199), some (.ref 564), some (.int x4), some (.int v16), some (.int v20)]) rfl ?_
                      obtain ⟨v22, hv22, H⟩ := g_bind H
                      refine n_callv (n_q md_251 rfl) (As := [.ref 199]) (rest := []) rfl rfl (Nat.le_of_ble_eq_true rfl) rfl (g_recv (b := 0) rfl t_199 rfl) (C133 (by omega) hv22) ?_
                      refine g_go 1 md_251 (i1 := 370) rfl ?_
                      by_cases h23 : v22 = v16
                      · rw [if_pos h23] at H
                        refine n_cmpT (n_q md_251 rfl) (decide_eq_true h23) ?_
                        refine g_go 1 md_251 (i1 := 374) rfl ?_
                        by_cases h24 : v16 = 0
                        · rw [if_pos h24] at H
                          refine n_ifF (n_q md_251 rfl) (fun e1 => of_decide_eq_true e1 h24) ?_
                          refine g_go 2 md_251 (i1 := 377) rfl ?_
                          refine g_lald (n_q md_251 rfl) ?_
                          refine g_go 2 md_251 (i1 := 380) rfl ?_
                          refine n_go (n_q md_251 rfl) (fun _ => rfl) ?_
                          by_cases h25 : (lg_cmp ((s21 564 0).toInt64) v20.toInt64) = 0
                          · rw [if_pos h25] at H
                            refine n_ifT (n_q md_251 rfl) (decide_eq_true h25) ?_
                            refine g_go 3 md_251 (i1 := 13) (ls1 := [some (.ref 1000000), some (.ref 0), some (.ref 199), some (.ref 564), some (.int (x4 + 7)), some (.int v16), some (.int v20)]) rfl ?_
                            cases H
                            exact K0 (x4 + 7, (s21, ex + k18)) rfl _ _
                          · rw [if_neg h25] at H
                            refine n_ifF (n_q md_251 rfl) (fun e1 => h25 (of_decide_eq_true e1)) ?_
                            refine g_go 1 md_251 (i1 := 383) rfl ?_
                            cases H
                            rw [← Kr _ rfl]
                            exact n_iret (n_q md_251 rfl) (Or.inr rfl)
                        · rw [if_neg h24] at H
                          refine n_ifT (n_q md_251 rfl) (decide_eq_true h24) ?_
                          refine g_go 3 md_251 (i1 := 13) (ls1 := [some (.ref 1000000), some (.ref 0), some (.ref 199), some (.ref 564), some (.int (x4 + 7)), some (.int v16), some (.int v20)]) rfl ?_
                          cases H
                          exact K0 (x4 + 7, (s21, ex + k18)) rfl _ _
                      · rw [if_neg h23] at H
                        refine n_cmpF (n_q md_251 rfl) (fun e1 => h23 (of_decide_eq_true e1)) ?_
                        refine g_go 1 md_251 (i1 := 372) rfl ?_
                        cases H
                        rw [← Kr _ rfl]
                        exact n_iret (n_q md_251 rfl) (Or.inr rfl)
                  · rw [if_neg h15] at H
                    refine n_ifF (n_q md_251 rfl) (fun e1 => h15 (of_decide_eq_true e1)) ?_
                    refine g_go 3 md_251 (i1 := 333) rfl ?_
                    obtain ⟨v16, k18, s17, hv16, H⟩ := g_wdp H
                    refine n_callv (n_q md_251 rfl) (As := [.ref 0, .int (X.2 (x4 + 1).toNatClampNeg), .int (X.2 (x4 + 2).toNatClampNeg), .int (X.2 (x4 + 3).toNatClampNeg), .int (X.2 (x4 + 4).toNatClampNeg), .int 1, .ref 564]) (rest := []) rfl rfl (Nat.le_of_ble_eq_true rfl) rfl rfl (C226 (by omega) hv16) ?_
                    refine g_go 6 md_251 (i1 := 340) (ls1 := [some (.ref 1000000), some (.ref 0), some (.ref 199), some (.ref 564), some (.int x4), some (.int v16), u6]) rfl ?_
                    refine n_scr (n_q md_251 rfl) h10 ?_
                    refine g_go 4 md_251 (i1 := 345) rfl ?_
                    refine n_scr (n_q md_251 rfl) h11 ?_
                    refine g_go 4 md_251 (i1 := 350) rfl ?_
                    refine n_scr (n_q md_251 rfl) h12 ?_
                    refine g_go 4 md_251 (i1 := 355) rfl ?_
                    refine n_scr (n_q md_251 rfl) h13 ?_
                    refine g_go 4 md_251 (i1 := 360) rfl ?_
                    refine n_scr (n_q md_251 rfl) h14 ?_
                    by_cases h19 : (X.2 (x4 + 5).toNatClampNeg) = 0
                    · rw [if_pos h19] at H
                      refine n_ifT (n_q md_251 rfl) (decide_eq_true h19) ?_
                      refine g_go 1 md_251 (i1 := 365) rfl ?_
                      obtain ⟨v20, s21, hv20, H⟩ := g_bdp H
                      refine n_callv (n_q md_251 rfl) (As := [.ref 199, .int (X.2 (x4 + 1).toNatClampNeg), .int (X.2 (x4 + 2).toNatClampNeg), .int (X.2 (x4 + 3).toNatClampNeg), .int (X.2 (x4 + 4).toNatClampNeg), .int 0]) (rest := []) rfl rfl (Nat.le_of_ble_eq_true rfl) rfl (g_recv (b := 0) rfl t_199 rfl) (C172 (by omega) hv20) ?_
                      refine g_go 2 md_251 (i1 := 368) (ls1 := [some (.ref 1000000), some (.ref 0), some (.ref 199), some (.ref 564), some (.int x4), some (.int v16), some (.int v20)]) rfl ?_
                      obtain ⟨v22, hv22, H⟩ := g_bind H
                      refine n_callv (n_q md_251 rfl) (As := [.ref 199]) (rest := []) rfl rfl (Nat.le_of_ble_eq_true rfl) rfl (g_recv (b := 0) rfl t_199 rfl) (C133 (by omega) hv22) ?_
                      refine g_go 1 md_251 (i1 := 370) rfl ?_
                      by_cases h23 : v22 = v16
                      · rw [if_pos h23] at H
                        refine n_cmpT (n_q md_251 rfl) (decide_eq_true h23) ?_
                        refine g_go 1 md_251 (i1 := 374) rfl ?_
                        by_cases h24 : v16 = 0
                        · rw [if_pos h24] at H
                          refine n_ifF (n_q md_251 rfl) (fun e1 => of_decide_eq_true e1 h24) ?_
                          refine g_go 2 md_251 (i1 := 377) rfl ?_
                          refine g_lald (n_q md_251 rfl) ?_
                          refine g_go 2 md_251 (i1 := 380) rfl ?_
                          refine n_go (n_q md_251 rfl) (fun _ => rfl) ?_
                          by_cases h25 : (lg_cmp ((s21 564 0).toInt64) v20.toInt64) = 0
                          · rw [if_pos h25] at H
                            refine n_ifT (n_q md_251 rfl) (decide_eq_true h25) ?_
                            refine g_go 3 md_251 (i1 := 13) (ls1 := [some (.ref 1000000), some (.ref 0), some (.ref 199), some (.ref 564), some (.int (x4 + 7)), some (.int v16), some (.int v20)]) rfl ?_
                            cases H
                            exact K0 (x4 + 7, (s21, ex + k18)) rfl _ _
                          · rw [if_neg h25] at H
                            refine n_ifF (n_q md_251 rfl) (fun e1 => h25 (of_decide_eq_true e1)) ?_
                            refine g_go 1 md_251 (i1 := 383) rfl ?_
                            cases H
                            rw [← Kr _ rfl]
                            exact n_iret (n_q md_251 rfl) (Or.inr rfl)
                        · rw [if_neg h24] at H
                          refine n_ifT (n_q md_251 rfl) (decide_eq_true h24) ?_
                          refine g_go 3 md_251 (i1 := 13) (ls1 := [some (.ref 1000000), some (.ref 0), some (.ref 199), some (.ref 564), some (.int (x4 + 7)), some (.int v16), some (.int v20)]) rfl ?_
                          cases H
                          exact K0 (x4 + 7, (s21, ex + k18)) rfl _ _
                      · rw [if_neg h23] at H
                        refine n_cmpF (n_q md_251 rfl) (fun e1 => h23 (of_decide_eq_true e1)) ?_
                        refine g_go 1 md_251 (i1 := 372) rfl ?_
                        cases H
                        rw [← Kr _ rfl]
                        exact n_iret (n_q md_251 rfl) (Or.inr rfl)
                    · rw [if_neg h19] at H
                      refine n_ifF (n_q md_251 rfl) (fun e1 => h19 (of_decide_eq_true e1)) ?_
                      refine g_go 2 md_251 (i1 := 365) rfl ?_
                      obtain ⟨v20, s21, hv20, H⟩ := g_bdp H
                      refine n_callv (n_q md_251 rfl) (As := [.ref 199, .int (X.2 (x4 + 1).toNatClampNeg), .int (X.2 (x4 + 2).toNatClampNeg), .int (X.2 (x4 + 3).toNatClampNeg), .int (X.2 (x4 + 4).toNatClampNeg), .int 1]) (rest := []) rfl rfl (Nat.le_of_ble_eq_true rfl) rfl (g_recv (b := 0) rfl t_199 rfl) (C172 (by omega) hv20) ?_
                      refine g_go 2 md_251 (i1 := 368) (ls1 := [some (.ref 1000000), some (.ref 0), some (.ref 199), some (.ref 564), some (.int x4), some (.int v16), some (.int v20)]) rfl ?_
                      obtain ⟨v22, hv22, H⟩ := g_bind H
                      refine n_callv (n_q md_251 rfl) (As := [.ref 199]) (rest := []) rfl rfl (Nat.le_of_ble_eq_true rfl) rfl (g_recv (b := 0) rfl t_199 rfl) (C133 (by omega) hv22) ?_
                      refine g_go 1 md_251 (i1 := 370) rfl ?_
                      by_cases h23 : v22 = v16
                      · rw [if_pos h23] at H
                        refine n_cmpT (n_q md_251 rfl) (decide_eq_true h23) ?_
                        refine g_go 1 md_251 (i1 := 374) rfl ?_
                        by_cases h24 : v16 = 0
                        · rw [if_pos h24] at H
                          refine n_ifF (n_q md_251 rfl) (fun e1 => of_decide_eq_true e1 h24) ?_
                          refine g_go 2 md_251 (i1 := 377) rfl ?_
                          refine g_lald (n_q md_251 rfl) ?_
                          refine g_go 2 md_251 (i1 := 380) rfl ?_
                          refine n_go (n_q md_251 rfl) (fun _ => rfl) ?_
                          by_cases h25 : (lg_cmp ((s21 564 0).toInt64) v20.toInt64) = 0
                          · rw [if_pos h25] at H
                            refine n_ifT (n_q md_251 rfl) (decide_eq_true h25) ?_
                            refine g_go 3 md_251 (i1 := 13) (ls1 := [some (.ref 1000000), some (.ref 0), some (.ref 199), some (.ref 564), some (.int (x4 + 7)), some (.int v16), some (.int v20)]) rfl ?_
                            cases H
                            exact K0 (x4 + 7, (s21, ex + k18)) rfl _ _
                          · rw [if_neg h25] at H
                            refine n_ifF (n_q md_251 rfl) (fun e1 => h25 (of_decide_eq_true e1)) ?_
                            refine g_go 1 md_251 (i1 := 383) rfl ?_
                            cases H
                            rw [← Kr _ rfl]
                            exact n_iret (n_q md_251 rfl) (Or.inr rfl)
                        · rw [if_neg h24] at H
                          refine n_ifT (n_q md_251 rfl) (decide_eq_true h24) ?_
                          refine g_go 3 md_251 (i1 := 13) (ls1 := [some (.ref 1000000), some (.ref 0), some (.ref 199), some (.ref 564), some (.int (x4 + 7)), some (.int v16), some (.int v20)]) rfl ?_
                          cases H
                          exact K0 (x4 + 7, (s21, ex + k18)) rfl _ _
                      · rw [if_neg h23] at H
                        refine n_cmpF (n_q md_251 rfl) (fun e1 => h23 (of_decide_eq_true e1)) ?_
                        refine g_go 1 md_251 (i1 := 372) rfl ?_
                        cases H
                        rw [← Kr _ rfl]
                        exact n_iret (n_q md_251 rfl) (Or.inr rfl)
                · rw [if_neg h9] at H ⊢
                  unfold m_sw
                  by_cases h10 : ((X.2 x4.toNatClampNeg) &&& 63) = 7
                  · rw [if_pos h10] at H ⊢
                    refine g_go 5 md_251 (i1 := 390) rfl ?_
                    obtain ⟨h11, H⟩ := g_gd H
                    refine n_scr (n_q md_251 rfl) h11 ?_
                    refine g_go 4 md_251 (i1 := 395) rfl ?_
                    obtain ⟨h12, H⟩ := g_gd H
                    refine n_scr (n_q md_251 rfl) h12 ?_
                    refine g_go 1 md_251 (i1 := 397) rfl ?_
                    obtain ⟨v13, k15, s14, hv13, H⟩ := g_wdp H
                    refine n_callv (n_q md_251 rfl) (As := [.ref 0, .int (X.2 (x4 + 1).toNatClampNeg), .int (X.2 (x4 + 2).toNatClampNeg), .ref 564]) (rest := []) rfl rfl (Nat.le_of_ble_eq_true rfl) rfl rfl (C227 (by omega) hv13) ?_
                    refine g_go 6 md_251 (i1 := 404) (ls1 := [some (.ref 1000000), some (.ref 0), some (.ref 199), some (.ref 564), some (.int x4), some (.int v13), u6]) rfl ?_
                    refine n_scr (n_q md_251 rfl) h11 ?_
                    refine g_go 4 md_251 (i1 := 409) rfl ?_
                    refine n_scr (n_q md_251 rfl) h12 ?_
                    obtain ⟨v16, s17, hv16, H⟩ := g_bdp H
                    refine n_callv (n_q md_251 rfl) (As := [.ref 199, .int (X.2 (x4 + 1).toNatClampNeg), .int (X.2 (x4 + 2).toNatClampNeg)]) (rest := []) rfl rfl (Nat.le_of_ble_eq_true rfl) rfl (g_recv (b := 0) rfl t_199 rfl) (C174 (by omega) hv16) ?_
                    refine g_go 2 md_251 (i1 := 413) (ls1 := [some (.ref 1000000), some (.ref 0), some (.ref 199), some (.ref 564), some (.int x4), some (.int v13), some (.int v16)]) rfl ?_
                    obtain ⟨v18, hv18, H⟩ := g_bind H
                    refine n_callv (n_q md_251 rfl) (As := [.ref 199]) (rest := []) rfl rfl (Nat.le_of_ble_eq_true rfl) rfl (g_recv (b := 0) rfl t_199 rfl) (C133 (by omega) hv18) ?_
                    refine g_go 1 md_251 (i1 := 415) rfl ?_
                    by_cases h19 : v18 = v13
                    · rw [if_pos h19] at H
                      refine n_cmpT (n_q md_251 rfl) (decide_eq_true h19) ?_
                      refine g_go 1 md_251 (i1 := 419) rfl ?_
                      by_cases h20 : v13 = 0
                      · rw [if_pos h20] at H
                        refine n_ifF (n_q md_251 rfl) (fun e1 => of_decide_eq_true e1 h20) ?_
                        refine g_go 2 md_251 (i1 := 422) rfl ?_
                        refine g_lald (n_q md_251 rfl) ?_
                        refine g_go 2 md_251 (i1 := 425) rfl ?_
                        refine n_go (n_q md_251 rfl) (fun _ => rfl) ?_
                        by_cases h21 : (lg_cmp ((s17 564 0).toInt64) v16.toInt64) = 0
                        · rw [if_pos h21] at H
                          refine n_ifT (n_q md_251 rfl) (decide_eq_true h21) ?_
                          refine g_go 3 md_251 (i1 := 13) (ls1 := [some (.ref 1000000), some (.ref 0), some (.ref 199), some (.ref 564), some (.int (x4 + 7)), some (.int v13), some (.int v16)]) rfl ?_
                          cases H
                          exact K0 (x4 + 7, (s17, ex + k15)) rfl _ _
                        · rw [if_neg h21] at H
                          refine n_ifF (n_q md_251 rfl) (fun e1 => h21 (of_decide_eq_true e1)) ?_
                          refine g_go 1 md_251 (i1 := 428) rfl ?_
                          cases H
                          rw [← Kr _ rfl]
                          exact n_iret (n_q md_251 rfl) (Or.inr rfl)
                      · rw [if_neg h20] at H
                        refine n_ifT (n_q md_251 rfl) (decide_eq_true h20) ?_
                        refine g_go 3 md_251 (i1 := 13) (ls1 := [some (.ref 1000000), some (.ref 0), some (.ref 199), some (.ref 564), some (.int (x4 + 7)), some (.int v13), some (.int v16)]) rfl ?_
                        cases H
                        exact K0 (x4 + 7, (s17, ex + k15)) rfl _ _
                    · rw [if_neg h19] at H
                      refine n_cmpF (n_q md_251 rfl) (fun e1 => h19 (of_decide_eq_true e1)) ?_
                      refine g_go 1 md_251 (i1 := 417) rfl ?_
                      cases H
                      rw [← Kr _ rfl]
                      exact n_iret (n_q md_251 rfl) (Or.inr rfl)
                  · rw [if_neg h10] at H ⊢
                    unfold m_sw
                    by_cases h11 : ((X.2 x4.toNatClampNeg) &&& 63) = 8
                    · rw [if_pos h11] at H ⊢
                      refine g_go 5 md_251 (i1 := 435) rfl ?_
                      obtain ⟨h12, H⟩ := g_gd H
                      refine n_scr (n_q md_251 rfl) h12 ?_
                      refine g_go 1 md_251 (i1 := 437) rfl ?_
                      obtain ⟨v13, k15, s14, hv13, H⟩ := g_wdp H
                      refine n_callv (n_q md_251 rfl) (As := [.ref 0, .int (X.2 (x4 + 1).toNatClampNeg), .ref 564]) (rest := []) rfl rfl (Nat.le_of_ble_eq_true rfl) rfl rfl (C228 (by omega) hv13) ?_
                      refine g_go 6 md_251 (i1 := 444) (ls1 := [some (.ref 1000000), some (.ref 0), some (.ref 199), some (.ref 564), some (.int x4), some (.int v13), u6]) rfl ?_
                      refine n_scr (n_q md_251 rfl) h12 ?_
                      obtain ⟨v16, s17, hv16, H⟩ := g_bdp H
                      refine n_callv (n_q md_251 rfl) (As := [.ref 199, .int (X.2 (x4 + 1).toNatClampNeg)]) (rest := []) rfl rfl (Nat.le_of_ble_eq_true rfl) rfl (g_recv (b := 0) rfl t_199 rfl) (C175 (by omega) hv16) ?_
                      refine g_go 2 md_251 (i1 := 448) (ls1 := [some (.ref 1000000), some (.ref 0), some (.ref 199), some (.ref 564), some (.int x4), some (.int v13), some (.int v16)]) rfl ?_
                      obtain ⟨v18, hv18, H⟩ := g_bind H
                      refine n_callv (n_q md_251 rfl) (As := [.ref 199]) (rest := []) rfl rfl (Nat.le_of_ble_eq_true rfl) rfl (g_recv (b := 0) rfl t_199 rfl) (C133 (by omega) hv18) ?_
                      refine g_go 1 md_251 (i1 := 450) rfl ?_
                      by_cases h19 : v18 = v13
                      · rw [if_pos h19] at H
                        refine n_cmpT (n_q md_251 rfl) (decide_eq_true h19) ?_
                        refine g_go 1 md_251 (i1 := 454) rfl ?_
                        by_cases h20 : v13 = 0
                        · rw [if_pos h20] at H
                          refine n_ifF (n_q md_251 rfl) (fun e1 => of_decide_eq_true e1 h20) ?_
                          refine g_go 2 md_251 (i1 := 457) rfl ?_
                          refine g_lald (n_q md_251 rfl) ?_
                          refine g_go 2 md_251 (i1 := 460) rfl ?_
                          refine n_go (n_q md_251 rfl) (fun _ => rfl) ?_
                          by_cases h21 : (lg_cmp ((s17 564 0).toInt64) v16.toInt64) = 0
                          · rw [if_pos h21] at H
                            refine n_ifT (n_q md_251 rfl) (decide_eq_true h21) ?_
                            refine g_go 3 md_251 (i1 := 13) (ls1 := [some (.ref 1000000), some (.ref 0), some (.ref 199), some (.ref 564), some (.int (x4 + 7)), some (.int v13), some (.int v16)]) rfl ?_
                            cases H
                            exact K0 (x4 + 7, (s17, ex + k15)) rfl _ _
                          · rw [if_neg h21] at H
                            refine n_ifF (n_q md_251 rfl) (fun e1 => h21 (of_decide_eq_true e1)) ?_
                            refine g_go 1 md_251 (i1 := 463) rfl ?_
                            cases H
                            rw [← Kr _ rfl]
                            exact n_iret (n_q md_251 rfl) (Or.inr rfl)
                        · rw [if_neg h20] at H
                          refine n_ifT (n_q md_251 rfl) (decide_eq_true h20) ?_
                          refine g_go 3 md_251 (i1 := 13) (ls1 := [some (.ref 1000000), some (.ref 0), some (.ref 199), some (.ref 564), some (.int (x4 + 7)), some (.int v13), some (.int v16)]) rfl ?_
                          cases H
                          exact K0 (x4 + 7, (s17, ex + k15)) rfl _ _
                      · rw [if_neg h19] at H
                        refine n_cmpF (n_q md_251 rfl) (fun e1 => h19 (of_decide_eq_true e1)) ?_
                        refine g_go 1 md_251 (i1 := 452) rfl ?_
                        cases H
                        rw [← Kr _ rfl]
                        exact n_iret (n_q md_251 rfl) (Or.inr rfl)
                    · rw [if_neg h11] at H ⊢
                      unfold m_sw
                      by_cases h12 : ((X.2 x4.toNatClampNeg) &&& 63) = 9
                      · rw [if_pos h12] at H ⊢
                        refine g_go 5 md_251 (i1 := 470) rfl ?_
                        obtain ⟨h13, H⟩ := g_gd H
                        refine n_scr (n_q md_251 rfl) h13 ?_
                        refine g_go 4 md_251 (i1 := 475) rfl ?_
                        obtain ⟨h14, H⟩ := g_gd H
                        refine n_scr (n_q md_251 rfl) h14 ?_
                        refine g_go 1 md_251 (i1 := 477) rfl ?_
                        obtain ⟨v15, k17, s16, hv15, H⟩ := g_wdp H
                        refine n_callv (n_q md_251 rfl) (As := [.ref 0, .int (X.2 (x4 + 1).toNatClampNeg), .int (X.2 (x4 + 2).toNatClampNeg), .ref 564]) (rest := []) rfl rfl (Nat.le_of_ble_eq_true rfl) rfl rfl (C229 (by omega) hv15) ?_
                        refine g_go 6 md_251 (i1 := 484) (ls1 := [some (.ref 1000000), some (.ref 0), some (.ref 199), some (.ref 564), some (.int x4), some (.int v15), u6]) rfl ?_
                        refine n_scr (n_q md_251 rfl) h13 ?_
                        refine g_go 4 md_251 (i1 := 489) rfl ?_
                        refine n_scr (n_q md_251 rfl) h14 ?_
                        obtain ⟨v18, s19, hv18, H⟩ := g_bdp H
                        refine n_callv (n_q md_251 rfl) (As := [.ref 199, .int (X.2 (x4 + 1).toNatClampNeg), .int (X.2 (x4 + 2).toNatClampNeg)]) (rest := []) rfl rfl (Nat.le_of_ble_eq_true rfl) rfl (g_recv (b := 0) rfl t_199 rfl) (C176 (by omega) hv18) ?_
                        refine g_go 2 md_251 (i1 := 493) (ls1 := [some (.ref 1000000), some (.ref 0), some (.ref 199), some (.ref 564), some (.int x4), some (.int v15), some (.int v18)]) rfl ?_
                        obtain ⟨v20, hv20, H⟩ := g_bind H
                        refine n_callv (n_q md_251 rfl) (As := [.ref 199]) (rest := []) rfl rfl (Nat.le_of_ble_eq_true rfl) rfl (g_recv (b := 0) rfl t_199 rfl) (C133 (by omega) hv20) ?_
                        refine g_go 1 md_251 (i1 := 495) rfl ?_
                        by_cases h21 : v20 = v15
                        · rw [if_pos h21] at H
                          refine n_cmpT (n_q md_251 rfl) (decide_eq_true h21) ?_
                          refine g_go 1 md_251 (i1 := 499) rfl ?_
                          by_cases h22 : v15 = 0
                          · rw [if_pos h22] at H
                            refine n_ifF (n_q md_251 rfl) (fun e1 => of_decide_eq_true e1 h22) ?_
                            refine g_go 2 md_251 (i1 := 502) rfl ?_
                            refine g_lald (n_q md_251 rfl) ?_
                            refine g_go 2 md_251 (i1 := 505) rfl ?_
                            refine n_go (n_q md_251 rfl) (fun _ => rfl) ?_
                            by_cases h23 : (lg_cmp ((s19 564 0).toInt64) v18.toInt64) = 0
                            · rw [if_pos h23] at H
                              refine n_ifT (n_q md_251 rfl) (decide_eq_true h23) ?_
                              refine g_go 3 md_251 (i1 := 13) (ls1 := [some (.ref 1000000), some (.ref 0), some (.ref 199), some (.ref 564), some (.int (x4 + 7)), some (.int v15), some (.int v18)]) rfl ?_
                              cases H
                              exact K0 (x4 + 7, (s19, ex + k17)) rfl _ _
                            · rw [if_neg h23] at H
                              refine n_ifF (n_q md_251 rfl) (fun e1 => h23 (of_decide_eq_true e1)) ?_
                              refine g_go 1 md_251 (i1 := 508) rfl ?_
                              cases H
                              rw [← Kr _ rfl]
                              exact n_iret (n_q md_251 rfl) (Or.inr rfl)
                          · rw [if_neg h22] at H
                            refine n_ifT (n_q md_251 rfl) (decide_eq_true h22) ?_
                            refine g_go 3 md_251 (i1 := 13) (ls1 := [some (.ref 1000000), some (.ref 0), some (.ref 199), some (.ref 564), some (.int (x4 + 7)), some (.int v15), some (.int v18)]) rfl ?_
                            cases H
                            exact K0 (x4 + 7, (s19, ex + k17)) rfl _ _
                        · rw [if_neg h21] at H
                          refine n_cmpF (n_q md_251 rfl) (fun e1 => h21 (of_decide_eq_true e1)) ?_
                          refine g_go 1 md_251 (i1 := 497) rfl ?_
                          cases H
                          rw [← Kr _ rfl]
                          exact n_iret (n_q md_251 rfl) (Or.inr rfl)
                      · rw [if_neg h12] at H ⊢
                        unfold m_sw
                        by_cases h13 : ((X.2 x4.toNatClampNeg) &&& 63) = 10
                        · rw [if_pos h13] at H ⊢
                          refine g_go 5 md_251 (i1 := 515) rfl ?_
                          obtain ⟨h14, H⟩ := g_gd H
                          refine n_scr (n_q md_251 rfl) h14 ?_
                          refine g_go 4 md_251 (i1 := 520) rfl ?_
                          obtain ⟨h15, H⟩ := g_gd H
                          refine n_scr (n_q md_251 rfl) h15 ?_
                          refine g_go 4 md_251 (i1 := 525) rfl ?_
                          obtain ⟨h16, H⟩ := g_gd H
                          refine n_scr (n_q md_251 rfl) h16 ?_
                          by_cases h17 : (X.2 (x4 + 3).toNatClampNeg) = 0
                          · rw [if_pos h17] at H
                            refine n_ifT (n_q md_251 rfl) (decide_eq_true h17) ?_
                            refine g_go 2 md_251 (i1 := 531) rfl ?_
                            obtain ⟨v18, k20, s19, hv18, H⟩ := g_wdp H
                            refine n_callv (n_q md_251 rfl) (As := [.ref 0, .int (X.2 (x4 + 1).toNatClampNeg), .int (X.2 (x4 + 2).toNatClampNeg), .int 0, .ref 564]) (rest := []) rfl rfl (Nat.le_of_ble_eq_true rfl) rfl rfl (C230 (by omega) hv18) ?_
                            refine g_go 6 md_251 (i1 := 538) (ls1 := [some (.ref 1000000), some (.ref 0), some (.ref 199), some (.ref 564), some (.int x4), some (.int v18), u6]) rfl ?_
                            refine n_scr (n_q md_251 rfl) h14 ?_
                            refine g_go 4 md_251 (i1 := 543) rfl ?_
                            refine n_scr (n_q md_251 rfl) h15 ?_
                            refine g_go 4 md_251 (i1 := 548) rfl ?_
                            refine n_scr (n_q md_251 rfl) h16 ?_
                            by_cases h21 : (X.2 (x4 + 3).toNatClampNeg) = 0
                            · rw [if_pos h21] at H
                              refine n_ifT (n_q md_251 rfl) (decide_eq_true h21) ?_
                              refine g_go 1 md_251 (i1 := 553) rfl ?_
                              obtain ⟨v22, s23, hv22, H⟩ := g_bdp H
                              refine n_callv (n_q md_251 rfl) (As := [.ref 199, .int (X.2 (x4 + 1).toNatClampNeg), .int (X.2 (x4 + 2).toNatClampNeg), .int 0]) (rest := []) rfl rfl (Nat.le_of_ble_eq_true rfl) rfl (g_recv (b := 0) rfl t_199 rfl) (C177 (by omega) hv22) ?_
                              refine g_go 2 md_251 (i1 := 556) (ls1 := [some (.ref 1000000), some (.ref 0), some (.ref 199), some (.ref 564), some (.int x4), some (.int v18), some (.int v22)]) rfl ?_
                              obtain ⟨v24, hv24, H⟩ := g_bind H
                              refine n_callv (n_q md_251 rfl) (As := [.ref 199]) (rest := []) rfl rfl (Nat.le_of_ble_eq_true rfl) rfl (g_recv (b := 0) rfl t_199 rfl) (C133 (by omega) hv24) ?_
                              refine g_go 1 md_251 (i1 := 558) rfl ?_
                              by_cases h25 : v24 = v18
                              · rw [if_pos h25] at H
                                refine n_cmpT (n_q md_251 rfl) (decide_eq_true h25) ?_
                                refine g_go 1 md_251 (i1 := 562) rfl ?_
                                by_cases h26 : v18 = 0
                                · rw [if_pos h26] at H
                                  refine n_ifF (n_q md_251 rfl) (fun e1 => of_decide_eq_true e1 h26) ?_
                                  refine g_go 2 md_251 (i1 := 565) rfl ?_
                                  refine g_lald (n_q md_251 rfl) ?_
                                  refine g_go 1 md_251 (i1 := 567) rfl ?_
                                  by_cases h27 : v22 = 0
                                  · rw [if_pos h27] at H
                                    refine n_ifT (n_q md_251 rfl) (decide_eq_true h27) ?_
                                    refine g_go 1 md_251 (i1 := 571) rfl ?_
                                    refine n_go (n_q md_251 rfl) (fun _ => rfl) ?_
                                    by_cases h28 : (lg_cmp ((s23 564 0).toInt64) (Int64.ofNat 0)) = 0
                                    · rw [if_pos h28] at H
                                      refine n_ifT (n_q md_251 rfl) (decide_eq_true h28) ?_
                                      refine g_go 3 md_251 (i1 := 13) (ls1 := [some (.ref 1000000), some (.ref 0), some (.ref 199), some (.ref 564), some (.int (x4 + 7)), some (.int v18), some (.int v22)]) rfl ?_
                                      cases H
                                      exact K0 (x4 + 7, (s23, ex + k20)) rfl _ _
                                    · rw [if_neg h28] at H
                                      refine n_ifF (n_q md_251 rfl) (fun e1 => h28 (of_decide_eq_true e1)) ?_
                                      refine g_go 1 md_251 (i1 := 574) rfl ?_
                                      cases H
                                      rw [← Kr _ rfl]
                                      exact n_iret (n_q md_251 rfl) (Or.inr rfl)
                                  · rw [if_neg h27] at H
                                    refine n_ifF (n_q md_251 rfl) (fun e1 => h27 (of_decide_eq_true e1)) ?_
                                    refine g_go 2 md_251 (i1 := 571) rfl ?_
                                    refine n_go (n_q md_251 rfl) (fun _ => rfl) ?_
                                    by_cases h28 : (lg_cmp ((s23 564 0).toInt64) (Int64.ofNat 1)) = 0
                                    · rw [if_pos h28] at H
                                      refine n_ifT (n_q md_251 rfl) (decide_eq_true h28) ?_
                                      refine g_go 3 md_251 (i1 := 13) (ls1 := [some (.ref 1000000), some (.ref 0), some (.ref 199), some (.ref 564), some (.int (x4 + 7)), some (.int v18), some (.int v22)]) rfl ?_
                                      cases H
                                      exact K0 (x4 + 7, (s23, ex + k20)) rfl _ _
                                    · rw [if_neg h28] at H
                                      refine n_ifF (n_q md_251 rfl) (fun e1 => h28 (of_decide_eq_true e1)) ?_
                                      refine g_go 1 md_251 (i1 := 574) rfl ?_
                                      cases H
                                      rw [← Kr _ rfl]
                                      exact n_iret (n_q md_251 rfl) (Or.inr rfl)
                                · rw [if_neg h26] at H
                                  refine n_ifT (n_q md_251 rfl) (decide_eq_true h26) ?_
                                  refine g_go 3 md_251 (i1 := 13) (ls1 := [some (.ref 1000000), some (.ref 0), some (.ref 199), some (.ref 564), some (.int (x4 + 7)), some (.int v18), some (.int v22)]) rfl ?_
                                  cases H
                                  exact K0 (x4 + 7, (s23, ex + k20)) rfl _ _
                              · rw [if_neg h25] at H
                                refine n_cmpF (n_q md_251 rfl) (fun e1 => h25 (of_decide_eq_true e1)) ?_
                                refine g_go 1 md_251 (i1 := 560) rfl ?_
                                cases H
                                rw [← Kr _ rfl]
                                exact n_iret (n_q md_251 rfl) (Or.inr rfl)
                            · rw [if_neg h21] at H
                              refine n_ifF (n_q md_251 rfl) (fun e1 => h21 (of_decide_eq_true e1)) ?_
                              refine g_go 2 md_251 (i1 := 553) rfl ?_
                              obtain ⟨v22, s23, hv22, H⟩ := g_bdp H
                              refine n_callv (n_q md_251 rfl) (As := [.ref 199, .int (X.2 (x4 + 1).toNatClampNeg), .int (X.2 (x4 + 2).toNatClampNeg), .int 1]) (rest := []) rfl rfl (Nat.le_of_ble_eq_true rfl) rfl (g_recv (b := 0) rfl t_199 rfl) (C177 (by omega) hv22) ?_
                              refine g_go 2 md_251 (i1 := 556) (ls1 := [some (.ref 1000000), some (.ref 0), some (.ref 199), some (.ref 564), some (.int x4), some (.int v18), some (.int v22)]) rfl ?_
                              obtain ⟨v24, hv24, H⟩ := g_bind H
                              refine n_callv (n_q md_251 rfl) (As := [.ref 199]) (rest := []) rfl rfl (Nat.le_of_ble_eq_true rfl) rfl (g_recv (b := 0) rfl t_199 rfl) (C133 (by omega) hv24) ?_
                              refine g_go 1 md_251 (i1 := 558) rfl ?_
                              by_cases h25 : v24 = v18
                              · rw [if_pos h25] at H
                                refine n_cmpT (n_q md_251 rfl) (decide_eq_true h25) ?_
                                refine g_go 1 md_251 (i1 := 562) rfl ?_
                                by_cases h26 : v18 = 0
                                · rw [if_pos h26] at H
                                  refine n_ifF (n_q md_251 rfl) (fun e1 => of_decide_eq_true e1 h26) ?_
                                  refine g_go 2 md_251 (i1 := 565) rfl ?_
                                  refine g_lald (n_q md_251 rfl) ?_
                                  refine g_go 1 md_251 (i1 := 567) rfl ?_
                                  by_cases h27 : v22 = 0
                                  · rw [if_pos h27] at H
                                    refine n_ifT (n_q md_251 rfl) (decide_eq_true h27) ?_
                                    refine g_go 1 md_251 (i1 := 571) rfl ?_
                                    refine n_go (n_q md_251 rfl) (fun _ => rfl) ?_
                                    by_cases h28 : (lg_cmp ((s23 564 0).toInt64) (Int64.ofNat 0)) = 0
                                    · rw [if_pos h28] at H
                                      refine n_ifT (n_q md_251 rfl) (decide_eq_true h28) ?_
                                      refine g_go 3 md_251 (i1 := 13) (ls1 := [some (.ref 1000000), some (.ref 0), some (.ref 199), some (.ref 564), some (.int (x4 + 7)), some (.int v18), some (.int v22)]) rfl ?_
                                      cases H
                                      exact K0 (x4 + 7, (s23, ex + k20)) rfl _ _
                                    · rw [if_neg h28] at H
                                      refine n_ifF (n_q md_251 rfl) (fun e1 => h28 (of_decide_eq_true e1)) ?_
                                      refine g_go 1 md_251 (i1 := 574) rfl ?_
                                      cases H
                                      rw [← Kr _ rfl]
                                      exact n_iret (n_q md_251 rfl) (Or.inr rfl)
                                  · rw [if_neg h27] at H
                                    refine n_ifF (n_q md_251 rfl) (fun e1 => h27 (of_decide_eq_true e1)) ?_
                                    refine g_go 2 md_251 (i1 := 571) rfl ?_
                                    refine n_go (n_q md_251 rfl) (fun _ => rfl) ?_
                                    by_cases h28 : (lg_cmp ((s23 564 0).toInt64) (Int64.ofNat 1)) = 0
                                    · rw [if_pos h28] at H
                                      refine n_ifT (n_q md_251 rfl) (decide_eq_true h28) ?_
                                      refine g_go 3 md_251 (i1 := 13) (ls1 := [some (.ref 1000000), some (.ref 0), some (.ref 199), some (.ref 564), some (.int (x4 + 7)), some (.int v18), some (.int v22)]) rfl ?_
                                      cases H
                                      exact K0 (x4 + 7, (s23, ex + k20)) rfl _ _
                                    · rw [if_neg h28] at H
                                      refine n_ifF (n_q md_251 rfl) (fun e1 => h28 (of_decide_eq_true e1)) ?_
                                      refine g_go 1 md_251 (i1 := 574) rfl ?_
                                      cases H
                                      rw [← Kr _ rfl]
                                      exact n_iret (n_q md_251 rfl) (Or.inr rfl)
                                · rw [if_neg h26] at H
                                  refine n_ifT (n_q md_251 rfl) (decide_eq_true h26) ?_
                                  refine g_go 3 md_251 (i1 := 13) (ls1 := [some (.ref 1000000), some (.ref 0), some (.ref 199), some (.ref 564), some (.int (x4 + 7)), some (.int v18), some (.int v22)]) rfl ?_
                                  cases H
                                  exact K0 (x4 + 7, (s23, ex + k20)) rfl _ _
                              · rw [if_neg h25] at H
                                refine n_cmpF (n_q md_251 rfl) (fun e1 => h25 (of_decide_eq_true e1)) ?_
                                refine g_go 1 md_251 (i1 := 560) rfl ?_
                                cases H
                                rw [← Kr _ rfl]
                                exact n_iret (n_q md_251 rfl) (Or.inr rfl)
                          · rw [if_neg h17] at H
                            refine n_ifF (n_q md_251 rfl) (fun e1 => h17 (of_decide_eq_true e1)) ?_
                            refine g_go 3 md_251 (i1 := 531) rfl ?_
                            obtain ⟨v18, k20, s19, hv18, H⟩ := g_wdp H
                            refine n_callv (n_q md_251 rfl) (As := [.ref 0, .int (X.2 (x4 + 1).toNatClampNeg), .int (X.2 (x4 + 2).toNatClampNeg), .int 1, .ref 564]) (rest := []) rfl rfl (Nat.le_of_ble_eq_true rfl) rfl rfl (C230 (by omega) hv18) ?_
                            refine g_go 6 md_251 (i1 := 538) (ls1 := [some (.ref 1000000), some (.ref 0), some (.ref 199), some (.ref 564), some (.int x4), some (.int v18), u6]) rfl ?_
                            refine n_scr (n_q md_251 rfl) h14 ?_
                            refine g_go 4 md_251 (i1 := 543) rfl ?_
                            refine n_scr (n_q md_251 rfl) h15 ?_
                            refine g_go 4 md_251 (i1 := 548) rfl ?_
                            refine n_scr (n_q md_251 rfl) h16 ?_
                            by_cases h21 : (X.2 (x4 + 3).toNatClampNeg) = 0
                            · rw [if_pos h21] at H
                              refine n_ifT (n_q md_251 rfl) (decide_eq_true h21) ?_
                              refine g_go 1 md_251 (i1 := 553) rfl ?_
                              obtain ⟨v22, s23, hv22, H⟩ := g_bdp H
                              refine n_callv (n_q md_251 rfl) (As := [.ref 199, .int (X.2 (x4 + 1).toNatClampNeg), .int (X.2 (x4 + 2).toNatClampNeg), .int 0]) (rest := []) rfl rfl (Nat.le_of_ble_eq_true rfl) rfl (g_recv (b := 0) rfl t_199 rfl) (C177 (by omega) hv22) ?_
                              refine g_go 2 md_251 (i1 := 556) (ls1 := [some (.ref 1000000), some (.ref 0), some (.ref 199), some (.ref 564), some (.int x4), some (.int v18), some (.int v22)]) rfl ?_
                              obtain ⟨v24, hv24, H⟩ := g_bind H
                              refine n_callv (n_q md_251 rfl) (As := [.ref 199]) (rest := []) rfl rfl (Nat.le_of_ble_eq_true rfl) rfl (g_recv (b := 0) rfl t_199 rfl) (C133 (by omega) hv24) ?_
                              refine g_go 1 md_251 (i1 := 558) rfl ?_
                              by_cases h25 : v24 = v18
                              · rw [if_pos h25] at H
                                refine n_cmpT (n_q md_251 rfl) (decide_eq_true h25) ?_
                                refine g_go 1 md_251 (i1 := 562) rfl ?_
                                by_cases h26 : v18 = 0
                                · rw [if_pos h26] at H
                                  refine n_ifF (n_q md_251 rfl) (fun e1 => of_decide_eq_true e1 h26) ?_
                                  refine g_go 2 md_251 (i1 := 565) rfl ?_
                                  refine g_lald (n_q md_251 rfl) ?_
                                  refine g_go 1 md_251 (i1 := 567) rfl ?_
                                  by_cases h27 : v22 = 0
                                  · rw [if_pos h27] at H
                                    refine n_ifT (n_q md_251 rfl) (decide_eq_true h27) ?_
                                    refine g_go 1 md_251 (i1 := 571) rfl ?_
                                    refine n_go (n_q md_251 rfl) (fun _ => rfl) ?_
                                    by_cases h28 : (lg_cmp ((s23 564 0).toInt64) (Int64.ofNat 0)) = 0
                                    · rw [if_pos h28] at H
                                      refine n_ifT (n_q md_251 rfl) (decide_eq_true h28) ?_
                                      refine g_go 3 md_251 (i1 := 13) (ls1 := [some (.ref 1000000), some (.ref 0), some (.ref 199), some (.ref 564), some (.int (x4 + 7)), some (.int v18), some (.int v22)]) rfl ?_
                                      cases H
                                      exact K0 (x4 + 7, (s23, ex + k20)) rfl _ _
                                    · rw [if_neg h28] at H
                                      refine n_ifF (n_q md_251 rfl) (fun e1 => h28 (of_decide_eq_true e1)) ?_
                                      refine g_go 1 md_251 (i1 := 574) rfl ?_
                                      cases H
                                      rw [← Kr _ rfl]
                                      exact n_iret (n_q md_251 rfl) (Or.inr rfl)
                                  · rw [if_neg h27] at H
                                    refine n_ifF (n_q md_251 rfl) (fun e1 => h27 (of_decide_eq_true e1)) ?_
                                    refine g_go 2 md_251 (i1 := 571) rfl ?_
                                    refine n_go (n_q md_251 rfl) (fun _ => rfl) ?_
                                    by_cases h28 : (lg_cmp ((s23 564 0).toInt64) (Int64.ofNat 1)) = 0
                                    · rw [if_pos h28] at H
                                      refine n_ifT (n_q md_251 rfl) (decide_eq_true h28) ?_
                                      refine g_go 3 md_251 (i1 := 13) (ls1 := [some (.ref 1000000), some (.ref 0), some (.ref 199), some (.ref 564), some (.int (x4 + 7)), some (.int v18), some (.int v22)]) rfl ?_
                                      cases H
                                      exact K0 (x4 + 7, (s23, ex + k20)) rfl _ _
                                    · rw [if_neg h28] at H
                                      refine n_ifF (n_q md_251 rfl) (fun e1 => h28 (of_decide_eq_true e1)) ?_
                                      refine g_go 1 md_251 (i1 := 574) rfl ?_
                                      cases H
                                      rw [← Kr _ rfl]
                                      exact n_iret (n_q md_251 rfl) (Or.inr rfl)
                                · rw [if_neg h26] at H
                                  refine n_ifT (n_q md_251 rfl) (decide_eq_true h26) ?_
                                  refine g_go 3 md_251 (i1 := 13) (ls1 := [some (.ref 1000000), some (.ref 0), some (.ref 199), some (.ref 564), some (.int (x4 + 7)), some (.int v18), some (.int v22)]) rfl ?_
                                  cases H
                                  exact K0 (x4 + 7, (s23, ex + k20)) rfl _ _
                              · rw [if_neg h25] at H
                                refine n_cmpF (n_q md_251 rfl) (fun e1 => h25 (of_decide_eq_true e1)) ?_
                                refine g_go 1 md_251 (i1 := 560) rfl ?_
                                cases H
                                rw [← Kr _ rfl]
                                exact n_iret (n_q md_251 rfl) (Or.inr rfl)
                            · rw [if_neg h21] at H
                              refine n_ifF (n_q md_251 rfl) (fun e1 => h21 (of_decide_eq_true e1)) ?_
                              refine g_go 2 md_251 (i1 := 553) rfl ?_
                              obtain ⟨v22, s23, hv22, H⟩ := g_bdp H
                              refine n_callv (n_q md_251 rfl) (As := [.ref 199, .int (X.2 (x4 + 1).toNatClampNeg), .int (X.2 (x4 + 2).toNatClampNeg), .int 1]) (rest := []) rfl rfl (Nat.le_of_ble_eq_true rfl) rfl (g_recv (b := 0) rfl t_199 rfl) (C177 (by omega) hv22) ?_
                              refine g_go 2 md_251 (i1 := 556) (ls1 := [some (.ref 1000000), some (.ref 0), some (.ref 199), some (.ref 564), some (.int x4), some (.int v18), some (.int v22)]) rfl ?_
                              obtain ⟨v24, hv24, H⟩ := g_bind H
                              refine n_callv (n_q md_251 rfl) (As := [.ref 199]) (rest := []) rfl rfl (Nat.le_of_ble_eq_true rfl) rfl (g_recv (b := 0) rfl t_199 rfl) (C133 (by omega) hv24) ?_
                              refine g_go 1 md_251 (i1 := 558) rfl ?_
                              by_cases h25 : v24 = v18
                              · rw [if_pos h25] at H
                                refine n_cmpT (n_q md_251 rfl) (decide_eq_true h25) ?_
                                refine g_go 1 md_251 (i1 := 562) rfl ?_
                                by_cases h26 : v18 = 0
                                · rw [if_pos h26] at H
                                  refine n_ifF (n_q md_251 rfl) (fun e1 => of_decide_eq_true e1 h26) ?_
                                  refine g_go 2 md_251 (i1 := 565) rfl ?_
                                  refine g_lald (n_q md_251 rfl) ?_
                                  refine g_go 1 md_251 (i1 := 567) rfl ?_
                                  by_cases h27 : v22 = 0
                                  · rw [if_pos h27] at H
                                    refine n_ifT (n_q md_251 rfl) (decide_eq_true h27) ?_
                                    refine g_go 1 md_251 (i1 := 571) rfl ?_
                                    refine n_go (n_q md_251 rfl) (fun _ => rfl) ?_
                                    by_cases h28 : (lg_cmp ((s23 564 0).toInt64) (Int64.ofNat 0)) = 0
                                    · rw [if_pos h28] at H
                                      refine n_ifT (n_q md_251 rfl) (decide_eq_true h28) ?_
                                      refine g_go 3 md_251 (i1 := 13) (ls1 := [some (.ref 1000000), some (.ref 0), some (.ref 199), some (.ref 564), some (.int (x4 + 7)), some (.int v18), some (.int v22)]) rfl ?_
                                      cases H
                                      exact K0 (x4 + 7, (s23, ex + k20)) rfl _ _
                                    · rw [if_neg h28] at H
                                      refine n_ifF (n_q md_251 rfl) (fun e1 => h28 (of_decide_eq_true e1)) ?_
                                      refine g_go 1 md_251 (i1 := 574) rfl ?_
                                      cases H
                                      rw [← Kr _ rfl]
                                      exact n_iret (n_q md_251 rfl) (Or.inr rfl)
                                  · rw [if_neg h27] at H
                                    refine n_ifF (n_q md_251 rfl) (fun e1 => h27 (of_decide_eq_true e1)) ?_
                                    refine g_go 2 md_251 (i1 := 571) rfl ?_
                                    refine n_go (n_q md_251 rfl) (fun _ => rfl) ?_
                                    by_cases h28 : (lg_cmp ((s23 564 0).toInt64) (Int64.ofNat 1)) = 0
                                    · rw [if_pos h28] at H
                                      refine n_ifT (n_q md_251 rfl) (decide_eq_true h28) ?_
                                      refine g_go 3 md_251 (i1 := 13) (ls1 := [some (.ref 1000000), some (.ref 0), some (.ref 199), some (.ref 564), some (.int (x4 + 7)), some (.int v18), some (.int v22)]) rfl ?_
                                      cases H
                                      exact K0 (x4 + 7, (s23, ex + k20)) rfl _ _
                                    · rw [if_neg h28] at H
                                      refine n_ifF (n_q md_251 rfl) (fun e1 => h28 (of_decide_eq_true e1)) ?_
                                      refine g_go 1 md_251 (i1 := 574) rfl ?_
                                      cases H
                                      rw [← Kr _ rfl]
                                      exact n_iret (n_q md_251 rfl) (Or.inr rfl)
                                · rw [if_neg h26] at H
                                  refine n_ifT (n_q md_251 rfl) (decide_eq_true h26) ?_
                                  refine g_go 3 md_251 (i1 := 13) (ls1 := [some (.ref 1000000), some (.ref 0), some (.ref 199), some (.ref 564), some (.int (x4 + 7)), some (.int v18), some (.int v22)]) rfl ?_
                                  cases H
                                  exact K0 (x4 + 7, (s23, ex + k20)) rfl _ _
                              · rw [if_neg h25] at H
                                refine n_cmpF (n_q md_251 rfl) (fun e1 => h25 (of_decide_eq_true e1)) ?_
                                refine g_go 1 md_251 (i1 := 560) rfl ?_
                                cases H
                                rw [← Kr _ rfl]
                                exact n_iret (n_q md_251 rfl) (Or.inr rfl)
                        · rw [if_neg h13] at H ⊢
                          unfold m_sw
                          by_cases h14 : ((X.2 x4.toNatClampNeg) &&& 63) = 11
                          · rw [if_pos h14] at H ⊢
                            refine g_go 5 md_251 (i1 := 581) rfl ?_
                            obtain ⟨h15, H⟩ := g_gd H
                            refine n_scr (n_q md_251 rfl) h15 ?_
                            refine g_go 4 md_251 (i1 := 586) rfl ?_
                            obtain ⟨h16, H⟩ := g_gd H
                            refine n_scr (n_q md_251 rfl) h16 ?_
                            refine g_go 1 md_251 (i1 := 588) rfl ?_
                            obtain ⟨v17, k19, s18, hv17, H⟩ := g_wdp H
                            refine n_callv (n_q md_251 rfl) (As := [.ref 0, .int (X.2 (x4 + 1).toNatClampNeg), .int (X.2 (x4 + 2).toNatClampNeg), .ref 564]) (rest := []) rfl rfl (Nat.le_of_ble_eq_true rfl) rfl rfl (C231 (by omega) hv17) ?_
                            refine g_go 6 md_251 (i1 := 595) (ls1 := [some (.ref 1000000), some (.ref 0), some (.ref 199), some (.ref 564), some (.int x4), some (.int v17), u6]) rfl ?_
                            refine n_scr (n_q md_251 rfl) h15 ?_
                            refine g_go 4 md_251 (i1 := 600) rfl ?_
                            refine n_scr (n_q md_251 rfl) h16 ?_
                            obtain ⟨v20, s21, hv20, H⟩ := g_bdp H
                            refine n_callv (n_q md_251 rfl) (As := [.ref 199, .int (X.2 (x4 + 1).toNatClampNeg), .int (X.2 (x4 + 2).toNatClampNeg)]) (rest := []) rfl rfl (Nat.le_of_ble_eq_true rfl) rfl (g_recv (b := 0) rfl t_199 rfl) (C178 (by omega) hv20) ?_
                            refine g_go 2 md_251 (i1 := 604) (ls1 := [some (.ref 1000000), some (.ref 0), some (.ref 199), some (.ref 564), some (.int x4), some (.int v17), some (.int v20)]) rfl ?_
                            obtain ⟨v22, hv22, H⟩ := g_bind H
                            refine n_callv (n_q md_251 rfl) (As := [.ref 199]) (rest := []) rfl rfl (Nat.le_of_ble_eq_true rfl) rfl (g_recv (b := 0) rfl t_199 rfl) (C133 (by omega) hv22) ?_
                            refine g_go 1 md_251 (i1 := 606) rfl ?_
                            by_cases h23 : v22 = v17
                            · rw [if_pos h23] at H
                              refine n_cmpT (n_q md_251 rfl) (decide_eq_true h23) ?_
                              refine g_go 1 md_251 (i1 := 610) rfl ?_
                              by_cases h24 : v17 = 0
                              · rw [if_pos h24] at H
                                refine n_ifF (n_q md_251 rfl) (fun e1 => of_decide_eq_true e1 h24) ?_
                                refine g_go 2 md_251 (i1 := 613) rfl ?_
                                refine g_lald (n_q md_251 rfl) ?_
                                refine g_go 2 md_251 (i1 := 616) rfl ?_
                                refine n_go (n_q md_251 rfl) (fun _ => rfl) ?_
                                by_cases h25 : (lg_cmp ((s21 564 0).toInt64) v20.toInt64) = 0
                                · rw [if_pos h25] at H
                                  refine n_ifT (n_q md_251 rfl) (decide_eq_true h25) ?_
                                  refine g_go 3 md_251 (i1 := 13) (ls1 := [some (.ref 1000000), some (.ref 0), some (.ref 199), some (.ref 564), some (.int (x4 + 7)), some (.int v17), some (.int v20)]) rfl ?_
                                  cases H
                                  exact K0 (x4 + 7, (s21, ex + k19)) rfl _ _
                                · rw [if_neg h25] at H
                                  refine n_ifF (n_q md_251 rfl) (fun e1 => h25 (of_decide_eq_true e1)) ?_
                                  refine g_go 1 md_251 (i1 := 619) rfl ?_
                                  cases H
                                  rw [← Kr _ rfl]
                                  exact n_iret (n_q md_251 rfl) (Or.inr rfl)
                              · rw [if_neg h24] at H
                                refine n_ifT (n_q md_251 rfl) (decide_eq_true h24) ?_
                                refine g_go 3 md_251 (i1 := 13) (ls1 := [some (.ref 1000000), some (.ref 0), some (.ref 199), some (.ref 564), some (.int (x4 + 7)), some (.int v17), some (.int v20)]) rfl ?_
                                cases H
                                exact K0 (x4 + 7, (s21, ex + k19)) rfl _ _
                            · rw [if_neg h23] at H
                              refine n_cmpF (n_q md_251 rfl) (fun e1 => h23 (of_decide_eq_true e1)) ?_
                              refine g_go 1 md_251 (i1 := 608) rfl ?_
                              cases H
                              rw [← Kr _ rfl]
                              exact n_iret (n_q md_251 rfl) (Or.inr rfl)
                          · rw [if_neg h14] at H ⊢
                            unfold m_sw
                            by_cases h15 : ((X.2 x4.toNatClampNeg) &&& 63) = 12
                            · rw [if_pos h15] at H ⊢
                              refine g_go 1 md_251 (i1 := 622) rfl ?_
                              obtain ⟨v16, hv16, H⟩ := g_bind H
                              refine n_callv (n_q md_251 rfl) (As := [.ref 0]) (rest := []) rfl rfl (Nat.le_of_ble_eq_true rfl) rfl (g_recv (b := 0) rfl t_0 rfl) (C90 (by omega) hv16) ?_
                              refine g_go 1 md_251 (i1 := 624) rfl ?_
                              obtain ⟨v17, s18, hv17, H⟩ := g_bdp H
                              refine n_callv (n_q md_251 rfl) (As := [.ref 199]) (rest := [.int v16]) rfl rfl (Nat.le_of_ble_eq_true rfl) rfl (g_recv (b := 0) rfl t_199 rfl) (C183 (by omega) hv17) ?_
                              by_cases h19 : v16 = v17
                              · rw [if_pos h19] at H
                                refine n_cmpT (n_q md_251 rfl) (decide_eq_true h19) ?_
                                refine g_go 2 md_251 (i1 := 13) (ls1 := [some (.ref 1000000), some (.ref 0), some (.ref 199), some (.ref 564), some (.int (x4 + 7)), u5, u6]) rfl ?_
                                cases H
                                exact K0 (x4 + 7, (s18, ex)) rfl _ _
                              · rw [if_neg h19] at H
                                refine n_cmpF (n_q md_251 rfl) (fun e1 => h19 (of_decide_eq_true e1)) ?_
                                refine g_go 1 md_251 (i1 := 627) rfl ?_
                                cases H
                                rw [← Kr _ rfl]
                                exact n_iret (n_q md_251 rfl) (Or.inr rfl)
                            · rw [if_neg h15] at H ⊢
                              unfold m_sw
                              by_cases h16 : ((X.2 x4.toNatClampNeg) &&& 63) = 13
                              · rw [if_pos h16] at H ⊢
                                refine g_go 5 md_251 (i1 := 633) rfl ?_
                                obtain ⟨h17, H⟩ := g_gd H
                                refine n_scr (n_q md_251 rfl) h17 ?_
                                refine g_go 4 md_251 (i1 := 638) rfl ?_
                                obtain ⟨h18, H⟩ := g_gd H
                                refine n_scr (n_q md_251 rfl) h18 ?_
                                refine g_go 1 md_251 (i1 := 640) rfl ?_
                                obtain ⟨v19, k21, s20, hv19, H⟩ := g_wdp H
                                refine n_callv (n_q md_251 rfl) (As := [.ref 0, .int (X.2 (x4 + 1).toNatClampNeg), .int (X.2 (x4 + 2).toNatClampNeg), .ref 564]) (rest := []) rfl rfl (Nat.le_of_ble_eq_true rfl) rfl rfl (C232 (by omega) hv19) ?_
                                refine g_go 6 md_251 (i1 := 647) (ls1 := [some (.ref 1000000), some (.ref 0), some (.ref 199), some (.ref 564), some (.int x4), some (.int v19), u6]) rfl ?_
                                refine n_scr (n_q md_251 rfl) h17 ?_
                                refine g_go 4 md_251 (i1 := 652) rfl ?_
                                refine n_scr (n_q md_251 rfl) h18 ?_
                                obtain ⟨v22, s23, hv22, H⟩ := g_bdp H
                                refine n_callv (n_q md_251 rfl) (As := [.ref 199, .int (X.2 (x4 + 1).toNatClampNeg), .int (X.2 (x4 + 2).toNatClampNeg)]) (rest := []) rfl rfl (Nat.le_of_ble_eq_true rfl) rfl (g_recv (b := 0) rfl t_199 rfl) (C185 (by omega) hv22) ?_
                                refine g_go 2 md_251 (i1 := 656) (ls1 := [some (.ref 1000000), some (.ref 0), some (.ref 199), some (.ref 564), some (.int x4), some (.int v19), some (.int v22)]) rfl ?_
                                obtain ⟨v24, hv24, H⟩ := g_bind H
                                refine n_callv (n_q md_251 rfl) (As := [.ref 199]) (rest := []) rfl rfl (Nat.le_of_ble_eq_true rfl) rfl (g_recv (b := 0) rfl t_199 rfl) (C133 (by omega) hv24) ?_
                                refine g_go 1 md_251 (i1 := 658) rfl ?_
                                by_cases h25 : v24 = v19
                                · rw [if_pos h25] at H
                                  refine n_cmpT (n_q md_251 rfl) (decide_eq_true h25) ?_
                                  refine g_go 1 md_251 (i1 := 662) rfl ?_
                                  by_cases h26 : v19 = 0
                                  · rw [if_pos h26] at H
                                    refine n_ifF (n_q md_251 rfl) (fun e1 => of_decide_eq_true e1 h26) ?_
                                    refine g_go 2 md_251 (i1 := 665) rfl ?_
                                    refine g_lald (n_q md_251 rfl) ?_
                                    refine g_go 2 md_251 (i1 := 668) rfl ?_
                                    refine n_go (n_q md_251 rfl) (fun _ => rfl) ?_
                                    by_cases h27 : (lg_cmp ((s23 564 0).toInt64) v22.toInt64) = 0
                                    · rw [if_pos h27] at H
                                      refine n_ifT (n_q md_251 rfl) (decide_eq_true h27) ?_
                                      refine g_go 3 md_251 (i1 := 13) (ls1 := [some (.ref 1000000), some (.ref 0), some (.ref 199), some (.ref 564), some (.int (x4 + 7)), some (.int v19), some (.int v22)]) rfl ?_
                                      cases H
                                      exact K0 (x4 + 7, (s23, ex + k21)) rfl _ _
                                    · rw [if_neg h27] at H
                                      refine n_ifF (n_q md_251 rfl) (fun e1 => h27 (of_decide_eq_true e1)) ?_
                                      refine g_go 1 md_251 (i1 := 671) rfl ?_
                                      cases H
                                      rw [← Kr _ rfl]
                                      exact n_iret (n_q md_251 rfl) (Or.inr rfl)
                                  · rw [if_neg h26] at H
                                    refine n_ifT (n_q md_251 rfl) (decide_eq_true h26) ?_
                                    refine g_go 3 md_251 (i1 := 13) (ls1 := [some (.ref 1000000), some (.ref 0), some (.ref 199), some (.ref 564), some (.int (x4 + 7)), some (.int v19), some (.int v22)]) rfl ?_
                                    cases H
                                    exact K0 (x4 + 7, (s23, ex + k21)) rfl _ _
                                · rw [if_neg h25] at H
                                  refine n_cmpF (n_q md_251 rfl) (fun e1 => h25 (of_decide_eq_true e1)) ?_
                                  refine g_go 1 md_251 (i1 := 660) rfl ?_
                                  cases H
                                  rw [← Kr _ rfl]
                                  exact n_iret (n_q md_251 rfl) (Or.inr rfl)
                              · rw [if_neg h16] at H ⊢
                                unfold m_sw
                                by_cases h17 : ((X.2 x4.toNatClampNeg) &&& 63) = 14
                                · rw [if_pos h17] at H ⊢
                                  refine g_go 5 md_251 (i1 := 678) rfl ?_
                                  obtain ⟨h18, H⟩ := g_gd H
                                  refine n_scr (n_q md_251 rfl) h18 ?_
                                  refine g_go 1 md_251 (i1 := 680) rfl ?_
                                  obtain ⟨v19, k21, s20, hv19, H⟩ := g_wdp H
                                  refine n_callv (n_q md_251 rfl) (As := [.ref 0, .int (X.2 (x4 + 1).toNatClampNeg), .ref 564]) (rest := []) rfl rfl (Nat.le_of_ble_eq_true rfl) rfl rfl (C233 (by omega) hv19) ?_
                                  refine g_go 6 md_251 (i1 := 687) (ls1 := [some (.ref 1000000), some (.ref 0), some (.ref 199), some (.ref 564), some (.int x4), some (.int v19), u6]) rfl ?_
                                  refine n_scr (n_q md_251 rfl) h18 ?_
                                  obtain ⟨v22, s23, hv22, H⟩ := g_bdp H
                                  refine n_callv (n_q md_251 rfl) (As := [.ref 199, .int (X.2 (x4 + 1).toNatClampNeg)]) (rest := []) rfl rfl (Nat.le_of_ble_eq_true rfl) rfl (g_recv (b := 0) rfl t_199 rfl) (C186 (by omega) hv22) ?_
                                  refine g_go 2 md_251 (i1 := 691) (ls1 := [some (.ref 1000000), some (.ref 0), some (.ref 199), some (.ref 564), some (.int x4), some (.int v19), some (.int v22)]) rfl ?_
                                  obtain ⟨v24, hv24, H⟩ := g_bind H
                                  refine n_callv (n_q md_251 rfl) (As := [.ref 199]) (rest := []) rfl rfl (Nat.le_of_ble_eq_true rfl) rfl (g_recv (b := 0) rfl t_199 rfl) (C133 (by omega) hv24) ?_
                                  refine g_go 1 md_251 (i1 := 693) rfl ?_
                                  by_cases h25 : v24 = v19
                                  · rw [if_pos h25] at H
                                    refine n_cmpT (n_q md_251 rfl) (decide_eq_true h25) ?_
                                    refine g_go 1 md_251 (i1 := 697) rfl ?_
                                    by_cases h26 : v19 = 0
                                    · rw [if_pos h26] at H
                                      refine n_ifF (n_q md_251 rfl) (fun e1 => of_decide_eq_true e1 h26) ?_
                                      refine g_go 2 md_251 (i1 := 700) rfl ?_
                                      refine g_lald (n_q md_251 rfl) ?_
                                      refine g_go 2 md_251 (i1 := 703) rfl ?_
                                      refine n_go (n_q md_251 rfl) (fun _ => rfl) ?_
                                      by_cases h27 : (lg_cmp ((s23 564 0).toInt64) v22.toInt64) = 0
                                      · rw [if_pos h27] at H
                                        refine n_ifT (n_q md_251 rfl) (decide_eq_true h27) ?_
                                        refine g_go 3 md_251 (i1 := 13) (ls1 := [some (.ref 1000000), some (.ref 0), some (.ref 199), some (.ref 564), some (.int (x4 + 7)), some (.int v19), some (.int v22)]) rfl ?_
                                        cases H
                                        exact K0 (x4 + 7, (s23, ex + k21)) rfl _ _
                                      · rw [if_neg h27] at H
                                        refine n_ifF (n_q md_251 rfl) (fun e1 => h27 (of_decide_eq_true e1)) ?_
                                        refine g_go 1 md_251 (i1 := 706) rfl ?_
                                        cases H
                                        rw [← Kr _ rfl]
                                        exact n_iret (n_q md_251 rfl) (Or.inr rfl)
                                    · rw [if_neg h26] at H
                                      refine n_ifT (n_q md_251 rfl) (decide_eq_true h26) ?_
                                      refine g_go 3 md_251 (i1 := 13) (ls1 := [some (.ref 1000000), some (.ref 0), some (.ref 199), some (.ref 564), some (.int (x4 + 7)), some (.int v19), some (.int v22)]) rfl ?_
                                      cases H
                                      exact K0 (x4 + 7, (s23, ex + k21)) rfl _ _
                                  · rw [if_neg h25] at H
                                    refine n_cmpF (n_q md_251 rfl) (fun e1 => h25 (of_decide_eq_true e1)) ?_
                                    refine g_go 1 md_251 (i1 := 695) rfl ?_
                                    cases H
                                    rw [← Kr _ rfl]
                                    exact n_iret (n_q md_251 rfl) (Or.inr rfl)
                                · rw [if_neg h17] at H ⊢
                                  unfold m_sw
                                  by_cases h18 : ((X.2 x4.toNatClampNeg) &&& 63) = 15
                                  · rw [if_pos h18] at H ⊢
                                    refine g_go 5 md_251 (i1 := 713) rfl ?_
                                    obtain ⟨h19, H⟩ := g_gd H
                                    refine n_scr (n_q md_251 rfl) h19 ?_
                                    refine g_go 1 md_251 (i1 := 715) rfl ?_
                                    obtain ⟨v20, k22, s21, hv20, H⟩ := g_wdp H
                                    refine n_callv (n_q md_251 rfl) (As := [.ref 0, .int (X.2 (x4 + 1).toNatClampNeg), .ref 564]) (rest := []) rfl rfl (Nat.le_of_ble_eq_true rfl) rfl rfl (C234 (by omega) hv20) ?_
                                    refine g_go 6 md_251 (i1 := 722) (ls1 := [some (.ref 1000000), some (.ref 0), some (.ref 199), some (.ref 564), some (.int x4), some (.int v20), u6]) rfl ?_
                                    refine n_scr (n_q md_251 rfl) h19 ?_
                                    obtain ⟨v23, s24, hv23, H⟩ := g_bdp H
                                    refine n_callv (n_q md_251 rfl) (As := [.ref 199, .int (X.2 (x4 + 1).toNatClampNeg)]) (rest := []) rfl rfl (Nat.le_of_ble_eq_true rfl) rfl (g_recv (b := 0) rfl t_199 rfl) (C187 (by omega) hv23) ?_
                                    refine g_go 2 md_251 (i1 := 726) (ls1 := [some (.ref 1000000), some (.ref 0), some (.ref 199), some (.ref 564), some (.int x4), some (.int v20), some (.int v23)]) rfl ?_
                                    obtain ⟨v25, hv25, H⟩ := g_bind H
                                    refine n_callv (n_q md_251 rfl) (As := [.ref 199]) (rest := []) rfl rfl (Nat.le_of_ble_eq_true rfl) rfl (g_recv (b := 0) rfl t_199 rfl) (C133 (by omega) hv25) ?_
                                    refine g_go 1 md_251 (i1 := 728) rfl ?_
                                    by_cases h26 : v25 = v20
                                    · rw [if_pos h26] at H
                                      refine n_cmpT (n_q md_251 rfl) (decide_eq_true h26) ?_
                                      refine g_go 1 md_251 (i1 := 732) rfl ?_
                                      by_cases h27 : v20 = 0
                                      · rw [if_pos h27] at H
                                        refine n_ifF (n_q md_251 rfl) (fun e1 => of_decide_eq_true e1 h27) ?_
                                        refine g_go 2 md_251 (i1 := 735) rfl ?_
                                        refine g_lald (n_q md_251 rfl) ?_
                                        refine g_go 2 md_251 (i1 := 738) rfl ?_
                                        refine n_go (n_q md_251 rfl) (fun _ => rfl) ?_
                                        by_cases h28 : (lg_cmp ((s24 564 0).toInt64) v23.toInt64) = 0
                                        · rw [if_pos h28] at H
                                          refine n_ifT (n_q md_251 rfl) (decide_eq_true h28) ?_
                                          refine g_go 3 md_251 (i1 := 13) (ls1 := [some (.ref 1000000), some (.ref 0), some (.ref 199), some (.ref 564), some (.int (x4 + 7)), some (.int v20), some (.int v23)]) rfl ?_
                                          cases H
                                          exact K0 (x4 + 7, (s24, ex + k22)) rfl _ _
                                        · rw [if_neg h28] at H
                                          refine n_ifF (n_q md_251 rfl) (fun e1 => h28 (of_decide_eq_true e1)) ?_
                                          refine g_go 1 md_251 (i1 := 741) rfl ?_
                                          cases H
                                          rw [← Kr _ rfl]
                                          exact n_iret (n_q md_251 rfl) (Or.inr rfl)
                                      · rw [if_neg h27] at H
                                        refine n_ifT (n_q md_251 rfl) (decide_eq_true h27) ?_
                                        refine g_go 3 md_251 (i1 := 13) (ls1 := [some (.ref 1000000), some (.ref 0), some (.ref 199), some (.ref 564), some (.int (x4 + 7)), some (.int v20), some (.int v23)]) rfl ?_
                                        cases H
                                        exact K0 (x4 + 7, (s24, ex + k22)) rfl _ _
                                    · rw [if_neg h26] at H
                                      refine n_cmpF (n_q md_251 rfl) (fun e1 => h26 (of_decide_eq_true e1)) ?_
                                      refine g_go 1 md_251 (i1 := 730) rfl ?_
                                      cases H
                                      rw [← Kr _ rfl]
                                      exact n_iret (n_q md_251 rfl) (Or.inr rfl)
                                  · rw [if_neg h18] at H ⊢
                                    unfold m_sw
                                    by_cases h19 : ((X.2 x4.toNatClampNeg) &&& 63) = 16
                                    · rw [if_pos h19] at H ⊢
                                      refine g_go 5 md_251 (i1 := 748) rfl ?_
                                      obtain ⟨h20, H⟩ := g_gd H
                                      refine n_scr (n_q md_251 rfl) h20 ?_
                                      refine g_go 1 md_251 (i1 := 750) rfl ?_
                                      obtain ⟨v21, k23, s22, hv21, H⟩ := g_wdp H
                                      refine n_callv (n_q md_251 rfl) (As := [.ref 0, .int (X.2 (x4 + 1).toNatClampNeg), .ref 564]) (rest := []) rfl rfl (Nat.le_of_ble_eq_true rfl) rfl rfl (C235 (by omega) hv21) ?_
                                      refine g_go 6 md_251 (i1 := 757) (ls1 := [some (.ref 1000000), some (.ref 0), some (.ref 199), some (.ref 564), some (.int x4), some (.int v21), u6]) rfl ?_
                                      refine n_scr (n_q md_251 rfl) h20 ?_
                                      obtain ⟨v24, s25, hv24, H⟩ := g_bdp H
                                      refine n_callv (n_q md_251 rfl) (As := [.ref 199, .int (X.2 (x4 + 1).toNatClampNeg)]) (rest := []) rfl rfl (Nat.le_of_ble_eq_true rfl) rfl (g_recv (b := 0) rfl t_199 rfl) (C188 (by omega) hv24) ?_
                                      refine g_go 2 md_251 (i1 := 761) (ls1 := [some (.ref 1000000), some (.ref 0), some (.ref 199), some (.ref 564), some (.int x4), some (.int v21), some (.int v24)]) rfl ?_
                                      obtain ⟨v26, hv26, H⟩ := g_bind H
                                      refine n_callv (n_q md_251 rfl) (As := [.ref 199]) (rest := []) rfl rfl (Nat.le_of_ble_eq_true rfl) rfl (g_recv (b := 0) rfl t_199 rfl) (C133 (by omega) hv26) ?_
                                      refine g_go 1 md_251 (i1 := 763) rfl ?_
                                      by_cases h27 : v26 = v21
                                      · rw [if_pos h27] at H
                                        refine n_cmpT (n_q md_251 rfl) (decide_eq_true h27) ?_
                                        refine g_go 1 md_251 (i1 := 767) rfl ?_
                                        by_cases h28 : v21 = 0
                                        · rw [if_pos h28] at H
                                          refine n_ifF (n_q md_251 rfl) (fun e1 => of_decide_eq_true e1 h28) ?_
                                          refine g_go 2 md_251 (i1 := 770) rfl ?_
                                          refine g_lald (n_q md_251 rfl) ?_
                                          refine g_go 2 md_251 (i1 := 773) rfl ?_
                                          refine n_go (n_q md_251 rfl) (fun _ => rfl) ?_
                                          by_cases h29 : (lg_cmp ((s25 564 0).toInt64) v24.toInt64) = 0
                                          · rw [if_pos h29] at H
                                            refine n_ifT (n_q md_251 rfl) (decide_eq_true h29) ?_
                                            refine g_go 3 md_251 (i1 := 13) (ls1 := [some (.ref 1000000), some (.ref 0), some (.ref 199), some (.ref 564), some (.int (x4 + 7)), some (.int v21), some (.int v24)]) rfl ?_
                                            cases H
                                            exact K0 (x4 + 7, (s25, ex + k23)) rfl _ _
                                          · rw [if_neg h29] at H
                                            refine n_ifF (n_q md_251 rfl) (fun e1 => h29 (of_decide_eq_true e1)) ?_
                                            refine g_go 1 md_251 (i1 := 776) rfl ?_
                                            cases H
                                            rw [← Kr _ rfl]
                                            exact n_iret (n_q md_251 rfl) (Or.inr rfl)
                                        · rw [if_neg h28] at H
                                          refine n_ifT (n_q md_251 rfl) (decide_eq_true h28) ?_
                                          refine g_go 3 md_251 (i1 := 13) (ls1 := [some (.ref 1000000), some (.ref 0), some (.ref 199), some (.ref 564), some (.int (x4 + 7)), some (.int v21), some (.int v24)]) rfl ?_
                                          cases H
                                          exact K0 (x4 + 7, (s25, ex + k23)) rfl _ _
                                      · rw [if_neg h27] at H
                                        refine n_cmpF (n_q md_251 rfl) (fun e1 => h27 (of_decide_eq_true e1)) ?_
                                        refine g_go 1 md_251 (i1 := 765) rfl ?_
                                        cases H
                                        rw [← Kr _ rfl]
                                        exact n_iret (n_q md_251 rfl) (Or.inr rfl)
                                    · rw [if_neg h19] at H ⊢
                                      unfold m_sw
                                      by_cases h20 : ((X.2 x4.toNatClampNeg) &&& 63) = 17
                                      · rw [if_pos h20] at H ⊢
                                        refine g_go 5 md_251 (i1 := 783) rfl ?_
                                        obtain ⟨h21, H⟩ := g_gd H
                                        refine n_scr (n_q md_251 rfl) h21 ?_
                                        refine g_go 1 md_251 (i1 := 785) rfl ?_
                                        obtain ⟨v22, k24, s23, hv22, H⟩ := g_wdp H
                                        refine n_callv (n_q md_251 rfl) (As := [.ref 0, .int (X.2 (x4 + 1).toNatClampNeg), .ref 564]) (rest := []) rfl rfl (Nat.le_of_ble_eq_true rfl) rfl rfl (C236 (by omega) hv22) ?_
                                        refine g_go 6 md_251 (i1 := 792) (ls1 := [some (.ref 1000000), some (.ref 0), some (.ref 199), some (.ref 564), some (.int x4), some (.int v22), u6]) rfl ?_
                                        refine n_scr (n_q md_251 rfl) h21 ?_
                                        obtain ⟨v25, s26, hv25, H⟩ := g_bdp H
                                        refine n_callv (n_q md_251 rfl) (As := [.ref 199, .int (X.2 (x4 + 1).toNatClampNeg)]) (rest := []) rfl rfl (Nat.le_of_ble_eq_true rfl) rfl (g_recv (b := 0) rfl t_199 rfl) (C189 (by omega) hv25) ?_
                                        refine g_go 2 md_251 (i1 := 796) (ls1 := [some (.ref 1000000), some (.ref 0), some (.ref 199), some (.ref 564), some (.int x4), some (.int v22), some (.int v25)]) rfl ?_
                                        obtain ⟨v27, hv27, H⟩ := g_bind H
                                        refine n_callv (n_q md_251 rfl) (As := [.ref 199]) (rest := []) rfl rfl (Nat.le_of_ble_eq_true rfl) rfl (g_recv (b := 0) rfl t_199 rfl) (C133 (by omega) hv27) ?_
                                        refine g_go 1 md_251 (i1 := 798) rfl ?_
                                        by_cases h28 : v27 = v22
                                        · rw [if_pos h28] at H
                                          refine n_cmpT (n_q md_251 rfl) (decide_eq_true h28) ?_
                                          refine g_go 1 md_251 (i1 := 802) rfl ?_
                                          by_cases h29 : v22 = 0
                                          · rw [if_pos h29] at H
                                            refine n_ifF (n_q md_251 rfl) (fun e1 => of_decide_eq_true e1 h29) ?_
                                            refine g_go 2 md_251 (i1 := 805) rfl ?_
                                            refine g_lald (n_q md_251 rfl) ?_
                                            refine g_go 2 md_251 (i1 := 808) rfl ?_
                                            refine n_go (n_q md_251 rfl) (fun _ => rfl) ?_
                                            by_cases h30 : (lg_cmp ((s26 564 0).toInt64) v25.toInt64) = 0
                                            · rw [if_pos h30] at H
                                              refine n_ifT (n_q md_251 rfl) (decide_eq_true h30) ?_
                                              refine g_go 3 md_251 (i1 := 13) (ls1 := [some (.ref 1000000), some (.ref 0), some (.ref 199), some (.ref 564), some (.int (x4 + 7)), some (.int v22), some (.int v25)]) rfl ?_
                                              cases H
                                              exact K0 (x4 + 7, (s26, ex + k24)) rfl _ _
                                            · rw [if_neg h30] at H
                                              refine n_ifF (n_q md_251 rfl) (fun e1 => h30 (of_decide_eq_true e1)) ?_
                                              refine g_go 1 md_251 (i1 := 811) rfl ?_
                                              cases H
                                              rw [← Kr _ rfl]
                                              exact n_iret (n_q md_251 rfl) (Or.inr rfl)
                                          · rw [if_neg h29] at H
                                            refine n_ifT (n_q md_251 rfl) (decide_eq_true h29) ?_
                                            refine g_go 3 md_251 (i1 := 13) (ls1 := [some (.ref 1000000), some (.ref 0), some (.ref 199), some (.ref 564), some (.int (x4 + 7)), some (.int v22), some (.int v25)]) rfl ?_
                                            cases H
                                            exact K0 (x4 + 7, (s26, ex + k24)) rfl _ _
                                        · rw [if_neg h28] at H
                                          refine n_cmpF (n_q md_251 rfl) (fun e1 => h28 (of_decide_eq_true e1)) ?_
                                          refine g_go 1 md_251 (i1 := 800) rfl ?_
                                          cases H
                                          rw [← Kr _ rfl]
                                          exact n_iret (n_q md_251 rfl) (Or.inr rfl)
                                      · rw [if_neg h20] at H ⊢
                                        unfold m_sw
                                        by_cases h21 : ((X.2 x4.toNatClampNeg) &&& 63) = 18
                                        · rw [if_pos h21] at H ⊢
                                          refine g_go 5 md_251 (i1 := 818) rfl ?_
                                          obtain ⟨h22, H⟩ := g_gd H
                                          refine n_scr (n_q md_251 rfl) h22 ?_
                                          refine g_go 1 md_251 (i1 := 820) rfl ?_
                                          obtain ⟨v23, k25, s24, hv23, H⟩ := g_wdp H
                                          refine n_callv (n_q md_251 rfl) (As := [.ref 0, .int (X.2 (x4 + 1).toNatClampNeg), .ref 564]) (rest := []) rfl rfl (Nat.le_of_ble_eq_true rfl) rfl rfl (C237 (by omega) hv23) ?_
                                          refine g_go 6 md_251 (i1 := 827) (ls1 := [some (.ref 1000000), some (.ref 0), some (.ref 199), some (.ref 564), some (.int x4), some (.int v23), u6]) rfl ?_
                                          refine n_scr (n_q md_251 rfl) h22 ?_
                                          obtain ⟨v26, s27, hv26, H⟩ := g_bdp H
                                          refine n_callv (n_q md_251 rfl) (As := [.ref 199, .int (X.2 (x4 + 1).toNatClampNeg)]) (rest := []) rfl rfl (Nat.le_of_ble_eq_true rfl) rfl (g_recv (b := 0) rfl t_199 rfl) (C190 (by omega) hv26) ?_
                                          refine g_go 2 md_251 (i1 := 831) (ls1 := [some (.ref 1000000), some (.ref 0), some (.ref 199), some (.ref 564), some (.int x4), some (.int v23), some (.int v26)]) rfl ?_
                                          obtain ⟨v28, hv28, H⟩ := g_bind H
                                          refine n_callv (n_q md_251 rfl) (As := [.ref 199]) (rest := []) rfl rfl (Nat.le_of_ble_eq_true rfl) rfl (g_recv (b := 0) rfl t_199 rfl) (C133 (by omega) hv28) ?_
                                          refine g_go 1 md_251 (i1 := 833) rfl ?_
                                          by_cases h29 : v28 = v23
                                          · rw [if_pos h29] at H
                                            refine n_cmpT (n_q md_251 rfl) (decide_eq_true h29) ?_
                                            refine g_go 1 md_251 (i1 := 837) rfl ?_
                                            by_cases h30 : v23 = 0
                                            · rw [if_pos h30] at H
                                              refine n_ifF (n_q md_251 rfl) (fun e1 => of_decide_eq_true e1 h30) ?_
                                              refine g_go 2 md_251 (i1 := 840) rfl ?_
                                              refine g_lald (n_q md_251 rfl) ?_
                                              refine g_go 1 md_251 (i1 := 842) rfl ?_
                                              by_cases h31 : v26 = 0
                                              · rw [if_pos h31] at H
                                                refine n_ifT (n_q md_251 rfl) (decide_eq_true h31) ?_
                                                refine g_go 1 md_251 (i1 := 846) rfl ?_
                                                refine n_go (n_q md_251 rfl) (fun _ => rfl) ?_
                                                by_cases h32 : (lg_cmp ((s27 564 0).toInt64) (Int64.ofNat 0)) = 0
                                                · rw [if_pos h32] at H
                                                  refine n_ifT (n_q md_251 rfl) (decide_eq_true h32) ?_
                                                  refine g_go 3 md_251 (i1 := 13) (ls1 := [some (.ref 1000000), some (.ref 0), some (.ref 199), some (.ref 564), some (.int (x4 + 7)), some (.int v23), some (.int v26)]) rfl ?_
                                                  cases H
                                                  exact K0 (x4 + 7, (s27, ex + k25)) rfl _ _
                                                · rw [if_neg h32] at H
                                                  refine n_ifF (n_q md_251 rfl) (fun e1 => h32 (of_decide_eq_true e1)) ?_
                                                  refine g_go 1 md_251 (i1 := 849) rfl ?_
                                                  cases H
                                                  rw [← Kr _ rfl]
                                                  exact n_iret (n_q md_251 rfl) (Or.inr rfl)
                                              · rw [if_neg h31] at H
                                                refine n_ifF (n_q md_251 rfl) (fun e1 => h31 (of_decide_eq_true e1)) ?_
                                                refine g_go 2 md_251 (i1 := 846) rfl ?_
                                                refine n_go (n_q md_251 rfl) (fun _ => rfl) ?_
                                                by_cases h32 : (lg_cmp ((s27 564 0).toInt64) (Int64.ofNat 1)) = 0
                                                · rw [if_pos h32] at H
                                                  refine n_ifT (n_q md_251 rfl) (decide_eq_true h32) ?_
                                                  refine g_go 3 md_251 (i1 := 13) (ls1 := [some (.ref 1000000), some (.ref 0), some (.ref 199), some (.ref 564), some (.int (x4 + 7)), some (.int v23), some (.int v26)]) rfl ?_
                                                  cases H
                                                  exact K0 (x4 + 7, (s27, ex + k25)) rfl _ _
                                                · rw [if_neg h32] at H
                                                  refine n_ifF (n_q md_251 rfl) (fun e1 => h32 (of_decide_eq_true e1)) ?_
                                                  refine g_go 1 md_251 (i1 := 849) rfl ?_
                                                  cases H
                                                  rw [← Kr _ rfl]
                                                  exact n_iret (n_q md_251 rfl) (Or.inr rfl)
                                            · rw [if_neg h30] at H
                                              refine n_ifT (n_q md_251 rfl) (decide_eq_true h30) ?_
                                              refine g_go 3 md_251 (i1 := 13) (ls1 := [some (.ref 1000000), some (.ref 0), some (.ref 199), some (.ref 564), some (.int (x4 + 7)), some (.int v23), some (.int v26)]) rfl ?_
                                              cases H
                                              exact K0 (x4 + 7, (s27, ex + k25)) rfl _ _
                                          · rw [if_neg h29] at H
                                            refine n_cmpF (n_q md_251 rfl) (fun e1 => h29 (of_decide_eq_true e1)) ?_
                                            refine g_go 1 md_251 (i1 := 835) rfl ?_
                                            cases H
                                            rw [← Kr _ rfl]
                                            exact n_iret (n_q md_251 rfl) (Or.inr rfl)
                                        · rw [if_neg h21] at H ⊢
                                          unfold m_sw
                                          by_cases h22 : ((X.2 x4.toNatClampNeg) &&& 63) = 19
                                          · rw [if_pos h22] at H ⊢
                                            refine g_go 5 md_251 (i1 := 856) rfl ?_
                                            obtain ⟨h23, H⟩ := g_gd H
                                            refine n_scr (n_q md_251 rfl) h23 ?_
                                            refine g_go 1 md_251 (i1 := 858) rfl ?_
                                            obtain ⟨v24, k26, s25, hv24, H⟩ := g_wdp H
                                            refine n_callv (n_q md_251 rfl) (As := [.ref 0, .int (X.2 (x4 + 1).toNatClampNeg), .ref 564]) (rest := []) rfl rfl (Nat.le_of_ble_eq_true rfl) rfl rfl (C238 (by omega) hv24) ?_
                                            refine g_go 6 md_251 (i1 := 865) (ls1 := [some (.ref 1000000), some (.ref 0), some (.ref 199), some (.ref 564), some (.int x4), some (.int v24), u6]) rfl ?_
                                            refine n_scr (n_q md_251 rfl) h23 ?_
                                            obtain ⟨v27, s28, hv27, H⟩ := g_bdp H
                                            refine n_callv (n_q md_251 rfl) (As := [.ref 199, .int (X.2 (x4 + 1).toNatClampNeg)]) (rest := []) rfl rfl (Nat.le_of_ble_eq_true rfl) rfl (g_recv (b := 0) rfl t_199 rfl) (C191 (by omega) hv27) ?_
                                            refine g_go 2 md_251 (i1 := 869) (ls1 := [some (.ref 1000000), some (.ref 0), some (.ref 199), some (.ref 564), some (.int x4), some (.int v24), some (.int v27)]) rfl ?_
                                            obtain ⟨v29, hv29, H⟩ := g_bind H
                                            refine n_callv (n_q md_251 rfl) (As := [.ref 199]) (rest := []) rfl rfl (Nat.le_of_ble_eq_true rfl) rfl (g_recv (b := 0) rfl t_199 rfl) (C133 (by omega) hv29) ?_
                                            refine g_go 1 md_251 (i1 := 871) rfl ?_
                                            by_cases h30 : v29 = v24
                                            · rw [if_pos h30] at H
                                              refine n_cmpT (n_q md_251 rfl) (decide_eq_true h30) ?_
                                              refine g_go 1 md_251 (i1 := 875) rfl ?_
                                              by_cases h31 : v24 = 0
                                              · rw [if_pos h31] at H
                                                refine n_ifF (n_q md_251 rfl) (fun e1 => of_decide_eq_true e1 h31) ?_
                                                refine g_go 2 md_251 (i1 := 878) rfl ?_
                                                refine g_lald (n_q md_251 rfl) ?_
                                                refine g_go 2 md_251 (i1 := 881) rfl ?_
                                                refine n_go (n_q md_251 rfl) (fun _ => rfl) ?_
                                                by_cases h32 : (lg_cmp ((s28 564 0).toInt64) v27.toInt64) = 0
                                                · rw [if_pos h32] at H
                                                  refine n_ifT (n_q md_251 rfl) (decide_eq_true h32) ?_
                                                  refine g_go 3 md_251 (i1 := 13) (ls1 := [some (.ref 1000000), some (.ref 0), some (.ref 199), some (.ref 564), some (.int (x4 + 7)), some (.int v24), some (.int v27)]) rfl ?_
                                                  cases H
                                                  exact K0 (x4 + 7, (s28, ex + k26)) rfl _ _
                                                · rw [if_neg h32] at H
                                                  refine n_ifF (n_q md_251 rfl) (fun e1 => h32 (of_decide_eq_true e1)) ?_
                                                  refine g_go 1 md_251 (i1 := 884) rfl ?_
                                                  cases H
                                                  rw [← Kr _ rfl]
                                                  exact n_iret (n_q md_251 rfl) (Or.inr rfl)
                                              · rw [if_neg h31] at H
                                                refine n_ifT (n_q md_251 rfl) (decide_eq_true h31) ?_
                                                refine g_go 3 md_251 (i1 := 13) (ls1 := [some (.ref 1000000), some (.ref 0), some (.ref 199), some (.ref 564), some (.int (x4 + 7)), some (.int v24), some (.int v27)]) rfl ?_
                                                cases H
                                                exact K0 (x4 + 7, (s28, ex + k26)) rfl _ _
                                            · rw [if_neg h30] at H
                                              refine n_cmpF (n_q md_251 rfl) (fun e1 => h30 (of_decide_eq_true e1)) ?_
                                              refine g_go 1 md_251 (i1 := 873) rfl ?_
                                              cases H
                                              rw [← Kr _ rfl]
                                              exact n_iret (n_q md_251 rfl) (Or.inr rfl)
                                          · rw [if_neg h22] at H ⊢
                                            unfold m_sw
                                            by_cases h23 : ((X.2 x4.toNatClampNeg) &&& 63) = 20
                                            · rw [if_pos h23] at H ⊢
                                              refine g_go 5 md_251 (i1 := 891) rfl ?_
                                              obtain ⟨h24, H⟩ := g_gd H
                                              refine n_scr (n_q md_251 rfl) h24 ?_
                                              refine g_go 4 md_251 (i1 := 896) rfl ?_
                                              obtain ⟨h25, H⟩ := g_gd H
                                              refine n_scr (n_q md_251 rfl) h25 ?_
                                              refine g_go 4 md_251 (i1 := 901) rfl ?_
                                              obtain ⟨h26, H⟩ := g_gd H
                                              refine n_scr (n_q md_251 rfl) h26 ?_
                                              refine g_go 1 md_251 (i1 := 903) rfl ?_
                                              obtain ⟨v27, k29, s28, hv27, H⟩ := g_wdp H
                                              refine n_callv (n_q md_251 rfl) (As := [.ref 0, .int (X.2 (x4 + 1).toNatClampNeg), .int (X.2 (x4 + 2).toNatClampNeg), .int (X.2 (x4 + 3).toNatClampNeg), .ref 564]) (rest := []) rfl rfl (Nat.le_of_ble_eq_true rfl) rfl rfl (C239 (by omega) hv27) ?_
                                              refine g_go 6 md_251 (i1 := 910) (ls1 := [some (.ref 1000000), some (.ref 0), some (.ref 199), some (.ref 564), some (.int x4), some (.int v27), u6]) rfl ?_
                                              refine n_scr (n_q md_251 rfl) h24 ?_
                                              refine g_go 4 md_251 (i1 := 915) rfl ?_
                                              refine n_scr (n_q md_251 rfl) h25 ?_
                                              refine g_go 4 md_251 (i1 := 920) rfl ?_
                                              refine n_scr (n_q md_251 rfl) h26 ?_
                                              obtain ⟨v30, s31, hv30, H⟩ := g_bdp H
                                              refine n_callv (n_q md_251 rfl) (As := [.ref 199, .int (X.2 (x4 + 1).toNatClampNeg), .int (X.2 (x4 + 2).toNatClampNeg), .int (X.2 (x4 + 3).toNatClampNeg)]) (rest := []) rfl rfl (Nat.le_of_ble_eq_true rfl) rfl (g_recv (b := 0) rfl t_199 rfl) (C192 (by omega) hv30) ?_
                                              refine g_go 2 md_251 (i1 := 924) (ls1 := [some (.ref 1000000), some (.ref 0), some (.ref 199), some (.ref 564), some (.int x4), some (.int v27), some (.int v30)]) rfl ?_
                                              obtain ⟨v32, hv32, H⟩ := g_bind H
                                              refine n_callv (n_q md_251 rfl) (As := [.ref 199]) (rest := []) rfl rfl (Nat.le_of_ble_eq_true rfl) rfl (g_recv (b := 0) rfl t_199 rfl) (C133 (by omega) hv32) ?_
                                              refine g_go 1 md_251 (i1 := 926) rfl ?_
                                              by_cases h33 : v32 = v27
                                              · rw [if_pos h33] at H
                                                refine n_cmpT (n_q md_251 rfl) (decide_eq_true h33) ?_
                                                refine g_go 1 md_251 (i1 := 930) rfl ?_
                                                by_cases h34 : v27 = 0
                                                · rw [if_pos h34] at H
                                                  refine n_ifF (n_q md_251 rfl) (fun e1 => of_decide_eq_true e1 h34) ?_
                                                  refine g_go 2 md_251 (i1 := 933) rfl ?_
                                                  refine g_lald (n_q md_251 rfl) ?_
                                                  refine g_go 2 md_251 (i1 := 936) rfl ?_
                                                  refine n_go (n_q md_251 rfl) (fun _ => rfl) ?_
                                                  by_cases h35 : (lg_cmp ((s31 564 0).toInt64) v30.toInt64) = 0
                                                  · rw [if_pos h35] at H
                                                    refine n_ifT (n_q md_251 rfl) (decide_eq_true h35) ?_
                                                    refine g_go 3 md_251 (i1 := 13) (ls1 := [some (.ref 1000000), some (.ref 0), some (.ref 199), some (.ref 564), some (.int (x4 + 7)), some (.int v27), some (.int v30)]) rfl ?_
                                                    cases H
                                                    exact K0 (x4 + 7, (s31, ex + k29)) rfl _ _
                                                  · rw [if_neg h35] at H
                                                    refine n_ifF (n_q md_251 rfl) (fun e1 => h35 (of_decide_eq_true e1)) ?_
                                                    refine g_go 1 md_251 (i1 := 939) rfl ?_
                                                    cases H
                                                    rw [← Kr _ rfl]
                                                    exact n_iret (n_q md_251 rfl) (Or.inr rfl)
                                                · rw [if_neg h34] at H
                                                  refine n_ifT (n_q md_251 rfl) (decide_eq_true h34) ?_
                                                  refine g_go 3 md_251 (i1 := 13) (ls1 := [some (.ref 1000000), some (.ref 0), some (.ref 199), some (.ref 564), some (.int (x4 + 7)), some (.int v27), some (.int v30)]) rfl ?_
                                                  cases H
                                                  exact K0 (x4 + 7, (s31, ex + k29)) rfl _ _
                                              · rw [if_neg h33] at H
                                                refine n_cmpF (n_q md_251 rfl) (fun e1 => h33 (of_decide_eq_true e1)) ?_
                                                refine g_go 1 md_251 (i1 := 928) rfl ?_
                                                cases H
                                                rw [← Kr _ rfl]
                                                exact n_iret (n_q md_251 rfl) (Or.inr rfl)
                                            · rw [if_neg h23] at H ⊢
                                              unfold m_sw
                                              by_cases h24 : ((X.2 x4.toNatClampNeg) &&& 63) = 21
                                              · rw [if_pos h24] at H ⊢
                                                refine g_go 5 md_251 (i1 := 946) rfl ?_
                                                obtain ⟨h25, H⟩ := g_gd H
                                                refine n_scr (n_q md_251 rfl) h25 ?_
                                                refine g_go 4 md_251 (i1 := 951) rfl ?_
                                                obtain ⟨h26, H⟩ := g_gd H
                                                refine n_scr (n_q md_251 rfl) h26 ?_
                                                refine g_go 1 md_251 (i1 := 953) rfl ?_
                                                obtain ⟨v27, k29, s28, hv27, H⟩ := g_wdp H
                                                refine n_callv (n_q md_251 rfl) (As := [.ref 0, .int (X.2 (x4 + 1).toNatClampNeg), .int (X.2 (x4 + 2).toNatClampNeg), .ref 564]) (rest := []) rfl rfl (Nat.le_of_ble_eq_true rfl) rfl rfl (C240 (by omega) hv27) ?_
                                                refine g_go 6 md_251 (i1 := 960) (ls1 := [some (.ref 1000000), some (.ref 0), some (.ref 199), some (.ref 564), some (.int x4), some (.int v27), u6]) rfl ?_
                                                refine n_scr (n_q md_251 rfl) h25 ?_
                                                refine g_go 4 md_251 (i1 := 965) rfl ?_
                                                refine n_scr (n_q md_251 rfl) h26 ?_
                                                obtain ⟨v30, s31, hv30, H⟩ := g_bdp H
                                                refine n_callv (n_q md_251 rfl) (As := [.ref 199, .int (X.2 (x4 + 1).toNatClampNeg), .int (X.2 (x4 + 2).toNatClampNeg)]) (rest := []) rfl rfl (Nat.le_of_ble_eq_true rfl) rfl (g_recv (b := 0) rfl t_199 rfl) (C197 (by omega) hv30) ?_
                                                refine g_go 2 md_251 (i1 := 969) (ls1 := [some (.ref 1000000), some (.ref 0), some (.ref 199), some (.ref 564), some (.int x4), some (.int v27), some (.int v30)]) rfl ?_
                                                obtain ⟨v32, hv32, H⟩ := g_bind H
                                                refine n_callv (n_q md_251 rfl) (As := [.ref 199]) (rest := []) rfl rfl (Nat.le_of_ble_eq_true rfl) rfl (g_recv (b := 0) rfl t_199 rfl) (C133 (by omega) hv32) ?_
                                                refine g_go 1 md_251 (i1 := 971) rfl ?_
                                                by_cases h33 : v32 = v27
                                                · rw [if_pos h33] at H
                                                  refine n_cmpT (n_q md_251 rfl) (decide_eq_true h33) ?_
                                                  refine g_go 1 md_251 (i1 := 975) rfl ?_
                                                  by_cases h34 : v27 = 0
                                                  · rw [if_pos h34] at H
                                                    refine n_ifF (n_q md_251 rfl) (fun e1 => of_decide_eq_true e1 h34) ?_
                                                    refine g_go 2 md_251 (i1 := 978) rfl ?_
                                                    refine g_lald (n_q md_251 rfl) ?_
                                                    refine g_go 2 md_251 (i1 := 981) rfl ?_
                                                    refine n_go (n_q md_251 rfl) (fun _ => rfl) ?_
                                                    by_cases h35 : (lg_cmp ((s31 564 0).toInt64) v30.toInt64) = 0
                                                    · rw [if_pos h35] at H
                                                      refine n_ifT (n_q md_251 rfl) (decide_eq_true h35) ?_
                                                      refine g_go 3 md_251 (i1 := 13) (ls1 := [some (.ref 1000000), some (.ref 0), some (.ref 199), some (.ref 564), some (.int (x4 + 7)), some (.int v27), some (.int v30)]) rfl ?_
                                                      cases H
                                                      exact K0 (x4 + 7, (s31, ex + k29)) rfl _ _
                                                    · rw [if_neg h35] at H
                                                      refine n_ifF (n_q md_251 rfl) (fun e1 => h35 (of_decide_eq_true e1)) ?_
                                                      refine g_go 1 md_251 (i1 := 984) rfl ?_
                                                      cases H
                                                      rw [← Kr _ rfl]
                                                      exact n_iret (n_q md_251 rfl) (Or.inr rfl)
                                                  · rw [if_neg h34] at H
                                                    refine n_ifT (n_q md_251 rfl) (decide_eq_true h34) ?_
                                                    refine g_go 3 md_251 (i1 := 13) (ls1 := [some (.ref 1000000), some (.ref 0), some (.ref 199), some (.ref 564), some (.int (x4 + 7)), some (.int v27), some (.int v30)]) rfl ?_
                                                    cases H
                                                    exact K0 (x4 + 7, (s31, ex + k29)) rfl _ _
                                                · rw [if_neg h33] at H
                                                  refine n_cmpF (n_q md_251 rfl) (fun e1 => h33 (of_decide_eq_true e1)) ?_
                                                  refine g_go 1 md_251 (i1 := 973) rfl ?_
                                                  cases H
                                                  rw [← Kr _ rfl]
                                                  exact n_iret (n_q md_251 rfl) (Or.inr rfl)
                                              · rw [if_neg h24] at H ⊢
                                                unfold m_sw
                                                by_cases h25 : ((X.2 x4.toNatClampNeg) &&& 63) = 22
                                                · rw [if_pos h25] at H ⊢
                                                  refine g_go 5 md_251 (i1 := 991) rfl ?_
                                                  obtain ⟨h26, H⟩ := g_gd H
                                                  refine n_scr (n_q md_251 rfl) h26 ?_
                                                  refine g_go 1 md_251 (i1 := 993) rfl ?_
                                                  obtain ⟨v27, k29, s28, hv27, H⟩ := g_wdp H
                                                  refine n_callv (n_q md_251 rfl) (As := [.ref 0, .int (X.2 (x4 + 1).toNatClampNeg), .ref 564]) (rest := []) rfl rfl (Nat.le_of_ble_eq_true rfl) rfl rfl (C241 (by omega) hv27) ?_
                                                  refine g_go 6 md_251 (i1 := 1000) (ls1 := [some (.ref 1000000), some (.ref 0), some (.ref 199), some (.ref 564), some (.int x4), some (.int v27), u6]) rfl ?_
                                                  refine n_scr (n_q md_251 rfl) h26 ?_
                                                  obtain ⟨v30, s31, hv30, H⟩ := g_bdp H
                                                  refine n_callv (n_q md_251 rfl) (As := [.ref 199, .int (X.2 (x4 + 1).toNatClampNeg)]) (rest := []) rfl rfl (Nat.le_of_ble_eq_true rfl) rfl (g_recv (b := 0) rfl t_199 rfl) (C199 (by omega) hv30) ?_
                                                  refine g_go 2 md_251 (i1 := 1004) (ls1 := [some (.ref 1000000), some (.ref 0), some (.ref 199), some (.ref 564), some (.int x4), some (.int v27), some (.int v30)]) rfl ?_
                                                  obtain ⟨v32, hv32, H⟩ := g_bind H
                                                  refine n_callv (n_q md_251 rfl) (As := [.ref 199]) (rest := []) rfl rfl (Nat.le_of_ble_eq_true rfl) rfl (g_recv (b := 0) rfl t_199 rfl) (C133 (by omega) hv32) ?_
                                                  refine g_go 1 md_251 (i1 := 1006) rfl ?_
                                                  by_cases h33 : v32 = v27
                                                  · rw [if_pos h33] at H
                                                    refine n_cmpT (n_q md_251 rfl) (decide_eq_true h33) ?_
                                                    refine g_go 1 md_251 (i1 := 1010) rfl ?_
                                                    by_cases h34 : v27 = 0
                                                    · rw [if_pos h34] at H
                                                      refine n_ifF (n_q md_251 rfl) (fun e1 => of_decide_eq_true e1 h34) ?_
                                                      refine g_go 2 md_251 (i1 := 1013) rfl ?_
                                                      refine g_lald (n_q md_251 rfl) ?_
                                                      refine g_go 2 md_251 (i1 := 1016) rfl ?_
                                                      refine n_go (n_q md_251 rfl) (fun _ => rfl) ?_
                                                      by_cases h35 : (lg_cmp ((s31 564 0).toInt64) v30.toInt64) = 0
                                                      · rw [if_pos h35] at H
                                                        refine n_ifT (n_q md_251 rfl) (decide_eq_true h35) ?_
                                                        refine g_go 3 md_251 (i1 := 13) (ls1 := [some (.ref 1000000), some (.ref 0), some (.ref 199), some (.ref 564), some (.int (x4 + 7)), some (.int v27), some (.int v30)]) rfl ?_
                                                        cases H
                                                        exact K0 (x4 + 7, (s31, ex + k29)) rfl _ _
                                                      · rw [if_neg h35] at H
                                                        refine n_ifF (n_q md_251 rfl) (fun e1 => h35 (of_decide_eq_true e1)) ?_
                                                        refine g_go 1 md_251 (i1 := 1019) rfl ?_
                                                        cases H
                                                        rw [← Kr _ rfl]
                                                        exact n_iret (n_q md_251 rfl) (Or.inr rfl)
                                                    · rw [if_neg h34] at H
                                                      refine n_ifT (n_q md_251 rfl) (decide_eq_true h34) ?_
                                                      refine g_go 3 md_251 (i1 := 13) (ls1 := [some (.ref 1000000), some (.ref 0), some (.ref 199), some (.ref 564), some (.int (x4 + 7)), some (.int v27), some (.int v30)]) rfl ?_
                                                      cases H
                                                      exact K0 (x4 + 7, (s31, ex + k29)) rfl _ _
                                                  · rw [if_neg h33] at H
                                                    refine n_cmpF (n_q md_251 rfl) (fun e1 => h33 (of_decide_eq_true e1)) ?_
                                                    refine g_go 1 md_251 (i1 := 1008) rfl ?_
                                                    cases H
                                                    rw [← Kr _ rfl]
                                                    exact n_iret (n_q md_251 rfl) (Or.inr rfl)
                                                · rw [if_neg h25] at H ⊢
                                                  unfold m_sw
                                                  by_cases h26 : ((X.2 x4.toNatClampNeg) &&& 63) = 23
                                                  · rw [if_pos h26] at H ⊢
                                                    refine g_go 5 md_251 (i1 := 1026) rfl ?_
                                                    obtain ⟨h27, H⟩ := g_gd H
                                                    refine n_scr (n_q md_251 rfl) h27 ?_
                                                    refine g_go 1 md_251 (i1 := 1028) rfl ?_
                                                    obtain ⟨v28, k30, s29, hv28, H⟩ := g_wdp H
                                                    refine n_callv (n_q md_251 rfl) (As := [.ref 0, .int (X.2 (x4 + 1).toNatClampNeg), .ref 564]) (rest := []) rfl rfl (Nat.le_of_ble_eq_true rfl) rfl rfl (C242 (by omega) hv28) ?_
                                                    refine g_go 6 md_251 (i1 := 1035) (ls1 := [some (.ref 1000000), some (.ref 0), some (.ref 199), some (.ref 564), some (.int x4), some (.int v28), u6]) rfl ?_
                                                    refine n_scr (n_q md_251 rfl) h27 ?_
                                                    obtain ⟨v31, s32, hv31, H⟩ := g_bdp H
                                                    refine n_callv (n_q md_251 rfl) (As := [.ref 199, .int (X.2 (x4 + 1).toNatClampNeg)]) (rest := []) rfl rfl (Nat.le_of_ble_eq_true rfl) rfl (g_recv (b := 0) rfl t_199 rfl) (C200 (by omega) hv31) ?_
                                                    refine g_go 2 md_251 (i1 := 1039) (ls1 := [some (.ref 1000000), some (.ref 0), some (.ref 199), some (.ref 564), some (.int x4), some (.int v28), some (.int v31)]) rfl ?_
                                                    obtain ⟨v33, hv33, H⟩ := g_bind H
                                                    refine n_callv (n_q md_251 rfl) (As := [.ref 199]) (rest := []) rfl rfl (Nat.le_of_ble_eq_true rfl) rfl (g_recv (b := 0) rfl t_199 rfl) (C133 (by omega) hv33) ?_
                                                    refine g_go 1 md_251 (i1 := 1041) rfl ?_
                                                    by_cases h34 : v33 = v28
                                                    · rw [if_pos h34] at H
                                                      refine n_cmpT (n_q md_251 rfl) (decide_eq_true h34) ?_
                                                      refine g_go 1 md_251 (i1 := 1045) rfl ?_
                                                      by_cases h35 : v28 = 0
                                                      · rw [if_pos h35] at H
                                                        refine n_ifF (n_q md_251 rfl) (fun e1 => of_decide_eq_true e1 h35) ?_
                                                        refine g_go 2 md_251 (i1 := 1048) rfl ?_
                                                        refine g_lald (n_q md_251 rfl) ?_
                                                        refine g_go 2 md_251 (i1 := 1051) rfl ?_
                                                        refine n_go (n_q md_251 rfl) (fun _ => rfl) ?_
                                                        by_cases h36 : (lg_cmp ((s32 564 0).toInt64) v31.toInt64) = 0
                                                        · rw [if_pos h36] at H
                                                          refine n_ifT (n_q md_251 rfl) (decide_eq_true h36) ?_
                                                          refine g_go 3 md_251 (i1 := 13) (ls1 := [some (.ref 1000000), some (.ref 0), some (.ref 199), some (.ref 564), some (.int (x4 + 7)), some (.int v28), some (.int v31)]) rfl ?_
                                                          cases H
                                                          exact K0 (x4 + 7, (s32, ex + k30)) rfl _ _
                                                        · rw [if_neg h36] at H
                                                          refine n_ifF (n_q md_251 rfl) (fun e1 => h36 (of_decide_eq_true e1)) ?_
                                                          refine g_go 1 md_251 (i1 := 1054) rfl ?_
                                                          cases H
                                                          rw [← Kr _ rfl]
                                                          exact n_iret (n_q md_251 rfl) (Or.inr rfl)
                                                      · rw [if_neg h35] at H
                                                        refine n_ifT (n_q md_251 rfl) (decide_eq_true h35) ?_
                                                        refine g_go 3 md_251 (i1 := 13) (ls1 := [some (.ref 1000000), some (.ref 0), some (.ref 199), some (.ref 564), some (.int (x4 + 7)), some (.int v28), some (.int v31)]) rfl ?_
                                                        cases H
                                                        exact K0 (x4 + 7, (s32, ex + k30)) rfl _ _
                                                    · rw [if_neg h34] at H
                                                      refine n_cmpF (n_q md_251 rfl) (fun e1 => h34 (of_decide_eq_true e1)) ?_
                                                      refine g_go 1 md_251 (i1 := 1043) rfl ?_
                                                      cases H
                                                      rw [← Kr _ rfl]
                                                      exact n_iret (n_q md_251 rfl) (Or.inr rfl)
                                                  · rw [if_neg h26] at H ⊢
                                                    unfold m_sw
                                                    by_cases h27 : ((X.2 x4.toNatClampNeg) &&& 63) = 24
                                                    · rw [if_pos h27] at H ⊢
                                                      refine g_go 5 md_251 (i1 := 1061) rfl ?_
                                                      obtain ⟨h28, H⟩ := g_gd H
                                                      refine n_scr (n_q md_251 rfl) h28 ?_
                                                      refine g_go 1 md_251 (i1 := 1063) rfl ?_
                                                      obtain ⟨v29, k31, s30, hv29, H⟩ := g_wdp H
                                                      refine n_callv (n_q md_251 rfl) (As := [.ref 0, .int (X.2 (x4 + 1).toNatClampNeg), .ref 564]) (rest := []) rfl rfl (Nat.le_of_ble_eq_true rfl) rfl rfl (C243 (by omega) hv29) ?_
                                                      refine g_go 6 md_251 (i1 := 1070) (ls1 := [some (.ref 1000000), some (.ref 0), some (.ref 199), some (.ref 564), some (.int x4), some (.int v29), u6]) rfl ?_
                                                      refine n_scr (n_q md_251 rfl) h28 ?_
                                                      obtain ⟨v32, s33, hv32, H⟩ := g_bdp H
                                                      refine n_callv (n_q md_251 rfl) (As := [.ref 199, .int (X.2 (x4 + 1).toNatClampNeg)]) (rest := []) rfl rfl (Nat.le_of_ble_eq_true rfl) rfl (g_recv (b := 0) rfl t_199 rfl) (C201 (by omega) hv32) ?_
                                                      refine g_go 2 md_251 (i1 := 1074) (ls1 := [some (.ref 1000000), some (.ref 0), some (.ref 199), some (.ref 564), some (.int x4), some (.int v29), some (.int v32)]) rfl ?_
                                                      obtain ⟨v34, hv34, H⟩ := g_bind H
                                                      refine n_callv (n_q md_251 rfl) (As := [.ref 199]) (rest := []) rfl rfl (Nat.le_of_ble_eq_true rfl) rfl (g_recv (b := 0) rfl t_199 rfl) (C133 (by omega) hv34) ?_
                                                      refine g_go 1 md_251 (i1 := 1076) rfl ?_
                                                      by_cases h35 : v34 = v29
                                                      · rw [if_pos h35] at H
                                                        refine n_cmpT (n_q md_251 rfl) (decide_eq_true h35) ?_
                                                        refine g_go 1 md_251 (i1 := 1080) rfl ?_
                                                        by_cases h36 : v29 = 0
                                                        · rw [if_pos h36] at H
                                                          refine n_ifF (n_q md_251 rfl) (fun e1 => of_decide_eq_true e1 h36) ?_
                                                          refine g_go 2 md_251 (i1 := 1083) rfl ?_
                                                          refine g_lald (n_q md_251 rfl) ?_
                                                          refine g_go 2 md_251 (i1 := 1086) rfl ?_
                                                          refine n_go (n_q md_251 rfl) (fun _ => rfl) ?_
                                                          by_cases h37 : (lg_cmp ((s33 564 0).toInt64) v32.toInt64) = 0
                                                          · rw [if_pos h37] at H
                                                            refine n_ifT (n_q md_251 rfl) (decide_eq_true h37) ?_
                                                            refine g_go 3 md_251 (i1 := 13) (ls1 := [some (.ref 1000000), some (.ref 0), some (.ref 199), some (.ref 564), some (.int (x4 + 7)), some (.int v29), some (.int v32)]) rfl ?_
                                                            cases H
                                                            exact K0 (x4 + 7, (s33, ex + k31)) rfl _ _
                                                          · rw [if_neg h37] at H
                                                            refine n_ifF (n_q md_251 rfl) (fun e1 => h37 (of_decide_eq_true e1)) ?_
                                                            refine g_go 1 md_251 (i1 := 1089) rfl ?_
                                                            cases H
                                                            rw [← Kr _ rfl]
                                                            exact n_iret (n_q md_251 rfl) (Or.inr rfl)
                                                        · rw [if_neg h36] at H
                                                          refine n_ifT (n_q md_251 rfl) (decide_eq_true h36) ?_
                                                          refine g_go 3 md_251 (i1 := 13) (ls1 := [some (.ref 1000000), some (.ref 0), some (.ref 199), some (.ref 564), some (.int (x4 + 7)), some (.int v29), some (.int v32)]) rfl ?_
                                                          cases H
                                                          exact K0 (x4 + 7, (s33, ex + k31)) rfl _ _
                                                      · rw [if_neg h35] at H
                                                        refine n_cmpF (n_q md_251 rfl) (fun e1 => h35 (of_decide_eq_true e1)) ?_
                                                        refine g_go 1 md_251 (i1 := 1078) rfl ?_
                                                        cases H
                                                        rw [← Kr _ rfl]
                                                        exact n_iret (n_q md_251 rfl) (Or.inr rfl)
                                                    · rw [if_neg h27] at H ⊢
                                                      unfold m_sw
                                                      by_cases h28 : ((X.2 x4.toNatClampNeg) &&& 63) = 25
                                                      · rw [if_pos h28] at H ⊢
                                                        refine g_go 1 md_251 (i1 := 1092) rfl ?_
                                                        obtain ⟨v29, s30, hv29, H⟩ := g_bdp H
                                                        refine n_callv (n_q md_251 rfl) (As := [.ref 0]) (rest := []) rfl rfl (Nat.le_of_ble_eq_true rfl) rfl (g_recv (b := 0) rfl t_0 rfl) (C103 (by omega) hv29) ?_
                                                        refine g_go 1 md_251 (i1 := 1094) rfl ?_
                                                        obtain ⟨v31, s32, hv31, H⟩ := g_bdp H
                                                        refine n_callv (n_q md_251 rfl) (As := [.ref 199]) (rest := [.int v29]) rfl rfl (Nat.le_of_ble_eq_true rfl) rfl (g_recv (b := 0) rfl t_199 rfl) (C205 (by omega) hv31) ?_
                                                        by_cases h33 : v29 = v31
                                                        · rw [if_pos h33] at H
                                                          refine n_cmpT (n_q md_251 rfl) (decide_eq_true h33) ?_
                                                          refine g_go 2 md_251 (i1 := 13) (ls1 := [some (.ref 1000000), some (.ref 0), some (.ref 199), some (.ref 564), some (.int (x4 + 7)), u5, u6]) rfl ?_
                                                          cases H
                                                          exact K0 (x4 + 7, (s32, ex)) rfl _ _
                                                        · rw [if_neg h33] at H
                                                          refine n_cmpF (n_q md_251 rfl) (fun e1 => h33 (of_decide_eq_true e1)) ?_
                                                          refine g_go 1 md_251 (i1 := 1097) rfl ?_
                                                          cases H
                                                          rw [← Kr _ rfl]
                                                          exact n_iret (n_q md_251 rfl) (Or.inr rfl)
                                                      · rw [if_neg h28] at H ⊢
                                                        unfold m_sw
                                                        by_cases h29 : ((X.2 x4.toNatClampNeg) &&& 63) = 26
                                                        · rw [if_pos h29] at H ⊢
                                                          refine g_go 5 md_251 (i1 := 1103) rfl ?_
                                                          obtain ⟨h30, H⟩ := g_gd H
                                                          refine n_scr (n_q md_251 rfl) h30 ?_
                                                          refine g_go 4 md_251 (i1 := 1108) rfl ?_
                                                          obtain ⟨h31, H⟩ := g_gd H
                                                          refine n_scr (n_q md_251 rfl) h31 ?_
                                                          by_cases h32 : (X.2 (x4 + 2).toNatClampNeg) = 0
                                                          · rw [if_pos h32] at H
                                                            refine n_ifT (n_q md_251 rfl) (decide_eq_true h32) ?_
                                                            refine g_go 2 md_251 (i1 := 1114) rfl ?_
                                                            obtain ⟨v33, k35, s34, hv33, H⟩ := g_wdp H
                                                            refine n_callv (n_q md_251 rfl) (As := [.ref 0, .int (X.2 (x4 + 1).toNatClampNeg), .int 0, .ref 564]) (rest := []) rfl rfl (Nat.le_of_ble_eq_true rfl) rfl rfl (C244 (by omega) hv33) ?_
                                                            refine g_go 6 md_251 (i1 := 1121) (ls1 := [some (.ref 1000000), some (.ref 0), some (.ref 199), some (.ref 564), some (.int x4), some (.int v33), u6]) rfl ?_
                                                            refine n_scr (n_q md_251 rfl) h30 ?_
                                                            refine g_go 4 md_251 (i1 := 1126) rfl ?_
                                                            refine n_scr (n_q md_251 rfl) h31 ?_
                                                            by_cases h36 : (X.2 (x4 + 2).toNatClampNeg) = 0
                                                            · rw [if_pos h36] at H
                                                              refine n_ifT (n_q md_251 rfl) (decide_eq_true h36) ?_
                                                              refine g_go 1 md_251 (i1 := 1131) rfl ?_
                                                              obtain ⟨v37, s38, hv37, H⟩ := g_bdp H
                                                              refine n_callv (n_q md_251 rfl) (As := [.ref 199, .int (X.2 (x4 + 1).toNatClampNeg), .int 0]) (rest := []) rfl rfl (Nat.le_of_ble_eq_true rfl) rfl (g_recv (b := 0) rfl t_199 rfl) (C206 (by omega) hv37) ?_
                                                              refine g_go 2 md_251 (i1 := 1134) (ls1 := [some (.ref 1000000), some (.ref 0), some (.ref 199), some (.ref 564), some (.int x4), some (.int v33), some (.int v37)]) rfl ?_
                                                              obtain ⟨v39, hv39, H⟩ := g_bind H
                                                              refine n_callv (n_q md_251 rfl) (As := [.ref 199]) (rest := []) rfl rfl (Nat.le_of_ble_eq_true rfl) rfl (g_recv (b := 0) rfl t_199 rfl) (C133 (by omega) hv39) ?_
                                                              refine g_go 1 md_251 (i1 := 1136) rfl ?_
                                                              by_cases h40 : v39 = v33
                                                              · rw [if_pos h40] at H
                                                                refine n_cmpT (n_q md_251 rfl) (decide_eq_true h40) ?_
                                                                refine g_go 1 md_251 (i1 := 1140) rfl ?_
                                                                by_cases h41 : v33 = 0
                                                                · rw [if_pos h41] at H
                                                                  refine n_ifF (n_q md_251 rfl) (fun e1 => of_decide_eq_true e1 h41) ?_
                                                                  refine g_go 2 md_251 (i1 := 1143) rfl ?_
                                                                  refine g_lald (n_q md_251 rfl) ?_
                                                                  refine g_go 2 md_251 (i1 := 1146) rfl ?_
                                                                  refine n_go (n_q md_251 rfl) (fun _ => rfl) ?_
                                                                  by_cases h42 : (lg_cmp ((s38 564 0).toInt64) v37.toInt64) = 0
                                                                  · rw [if_pos h42] at H
                                                                    refine n_ifT (n_q md_251 rfl) (decide_eq_true h42) ?_
                                                                    refine g_go 3 md_251 (i1 := 13) (ls1 := [some (.ref 1000000), some (.ref 0), some (.ref 199), some (.ref 564), some (.int (x4 + 7)), some (.int v33), some (.int v37)]) rfl ?_
                                                                    cases H
                                                                    exact K0 (x4 + 7, (s38, ex + k35)) rfl _ _
                                                                  · rw [if_neg h42] at H
                                                                    refine n_ifF (n_q md_251 rfl) (fun e1 => h42 (of_decide_eq_true e1)) ?_
                                                                    refine g_go 1 md_251 (i1 := 1149) rfl ?_
                                                                    cases H
                                                                    rw [← Kr _ rfl]
                                                                    exact n_iret (n_q md_251 rfl) (Or.inr rfl)
                                                                · rw [if_neg h41] at H
                                                                  refine n_ifT (n_q md_251 rfl) (decide_eq_true h41) ?_
                                                                  refine g_go 3 md_251 (i1 := 13) (ls1 := [some (.ref 1000000), some (.ref 0), some (.ref 199), some (.ref 564), some (.int (x4 + 7)), some (.int v33), some (.int v37)]) rfl ?_
                                                                  cases H
                                                                  exact K0 (x4 + 7, (s38, ex + k35)) rfl _ _
                                                              · rw [if_neg h40] at H
                                                                refine n_cmpF (n_q md_251 rfl) (fun e1 => h40 (of_decide_eq_true e1)) ?_
                                                                refine g_go 1 md_251 (i1 := 1138) rfl ?_
                                                                cases H
                                                                rw [← Kr _ rfl]
                                                                exact n_iret (n_q md_251 rfl) (Or.inr rfl)
                                                            · rw [if_neg h36] at H
                                                              refine n_ifF (n_q md_251 rfl) (fun e1 => h36 (of_decide_eq_true e1)) ?_
                                                              refine g_go 2 md_251 (i1 := 1131) rfl ?_
                                                              obtain ⟨v37, s38, hv37, H⟩ := g_bdp H
                                                              refine n_callv (n_q md_251 rfl) (As := [.ref 199, .int (X.2 (x4 + 1).toNatClampNeg), .int 1]) (rest := []) rfl rfl (Nat.le_of_ble_eq_true rfl) rfl (g_recv (b := 0) rfl t_199 rfl) (C206 (by omega) hv37) ?_
                                                              refine g_go 2 md_251 (i1 := 1134) (ls1 := [some (.ref 1000000), some (.ref 0), some (.ref 199), some (.ref 564), some (.int x4), some (.int v33), some (.int v37)]) rfl ?_
                                                              obtain ⟨v39, hv39, H⟩ := g_bind H
                                                              refine n_callv (n_q md_251 rfl) (As := [.ref 199]) (rest := []) rfl rfl (Nat.le_of_ble_eq_true rfl) rfl (g_recv (b := 0) rfl t_199 rfl) (C133 (by omega) hv39) ?_
                                                              refine g_go 1 md_251 (i1 := 1136) rfl ?_
                                                              by_cases h40 : v39 = v33
                                                              · rw [if_pos h40] at H
                                                                refine n_cmpT (n_q md_251 rfl) (decide_eq_true h40) ?_
                                                                refine g_go 1 md_251 (i1 := 1140) rfl ?_
                                                                by_cases h41 : v33 = 0
                                                                · rw [if_pos h41] at H
                                                                  refine n_ifF (n_q md_251 rfl) (fun e1 => of_decide_eq_true e1 h41) ?_
                                                                  refine g_go 2 md_251 (i1 := 1143) rfl ?_
                                                                  refine g_lald (n_q md_251 rfl) ?_
                                                                  refine g_go 2 md_251 (i1 := 1146) rfl ?_
                                                                  refine n_go (n_q md_251 rfl) (fun _ => rfl) ?_
                                                                  by_cases h42 : (lg_cmp ((s38 564 0).toInt64) v37.toInt64) = 0
                                                                  · rw [if_pos h42] at H
                                                                    refine n_ifT (n_q md_251 rfl) (decide_eq_true h42) ?_
                                                                    refine g_go 3 md_251 (i1 := 13) (ls1 := [some (.ref 1000000), some (.ref 0), some (.ref 199), some (.ref 564), some (.int (x4 + 7)), some (.int v33), some (.int v37)]) rfl ?_
                                                                    cases H
                                                                    exact K0 (x4 + 7, (s38, ex + k35)) rfl _ _
                                                                  · rw [if_neg h42] at H
                                                                    refine n_ifF (n_q md_251 rfl) (fun e1 => h42 (of_decide_eq_true e1)) ?_
                                                                    refine g_go 1 md_251 (i1 := 1149) rfl ?_
                                                                    cases H
                                                                    rw [← Kr _ rfl]
                                                                    exact n_iret (n_q md_251 rfl) (Or.inr rfl)
                                                                · rw [if_neg h41] at H
                                                                  refine n_ifT (n_q md_251 rfl) (decide_eq_true h41) ?_
                                                                  refine g_go 3 md_251 (i1 := 13) (ls1 := [some (.ref 1000000), some (.ref 0), some (.ref 199), some (.ref 564), some (.int (x4 + 7)), some (.int v33), some (.int v37)]) rfl ?_
                                                                  cases H
                                                                  exact K0 (x4 + 7, (s38, ex + k35)) rfl _ _
                                                              · rw [if_neg h40] at H
                                                                refine n_cmpF (n_q md_251 rfl) (fun e1 => h40 (of_decide_eq_true e1)) ?_
                                                                refine g_go 1 md_251 (i1 := 1138) rfl ?_
                                                                cases H
                                                                rw [← Kr _ rfl]
                                                                exact n_iret (n_q md_251 rfl) (Or.inr rfl)
                                                          · rw [if_neg h32] at H
                                                            refine n_ifF (n_q md_251 rfl) (fun e1 => h32 (of_decide_eq_true e1)) ?_
                                                            refine g_go 3 md_251 (i1 := 1114) rfl ?_
                                                            obtain ⟨v33, k35, s34, hv33, H⟩ := g_wdp H
                                                            refine n_callv (n_q md_251 rfl) (As := [.ref 0, .int (X.2 (x4 + 1).toNatClampNeg), .int 1, .ref 564]) (rest := []) rfl rfl (Nat.le_of_ble_eq_true rfl) rfl rfl (C244 (by omega) hv33) ?_
                                                            refine g_go 6 md_251 (i1 := 1121) (ls1 := [some (.ref 1000000), some (.ref 0), some (.ref 199), some (.ref 564), some (.int x4), some (.int v33), u6]) rfl ?_
                                                            refine n_scr (n_q md_251 rfl) h30 ?_
                                                            refine g_go 4 md_251 (i1 := 1126) rfl ?_
                                                            refine n_scr (n_q md_251 rfl) h31 ?_
                                                            by_cases h36 : (X.2 (x4 + 2).toNatClampNeg) = 0
                                                            · rw [if_pos h36] at H
                                                              refine n_ifT (n_q md_251 rfl) (decide_eq_true h36) ?_
                                                              refine g_go 1 md_251 (i1 := 1131) rfl ?_
                                                              obtain ⟨v37, s38, hv37, H⟩ := g_bdp H
                                                              refine n_callv (n_q md_251 rfl) (As := [.ref 199, .int (X.2 (x4 + 1).toNatClampNeg), .int 0]) (rest := []) rfl rfl (Nat.le_of_ble_eq_true rfl) rfl (g_recv (b := 0) rfl t_199 rfl) (C206 (by omega) hv37) ?_
                                                              refine g_go 2 md_251 (i1 := 1134) (ls1 := [some (.ref 1000000), some (.ref 0), some (.ref 199), some (.ref 564), some (.int x4), some (.int v33), some (.int v37)]) rfl ?_
                                                              obtain ⟨v39, hv39, H⟩ := g_bind H
                                                              refine n_callv (n_q md_251 rfl) (As := [.ref 199]) (rest := []) rfl rfl (Nat.le_of_ble_eq_true rfl) rfl (g_recv (b := 0) rfl t_199 rfl) (C133 (by omega) hv39) ?_
                                                              refine g_go 1 md_251 (i1 := 1136) rfl ?_
                                                              by_cases h40 : v39 = v33
                                                              · rw [if_pos h40] at H
                                                                refine n_cmpT (n_q md_251 rfl) (decide_eq_true h40) ?_
                                                                refine g_go 1 md_251 (i1 := 1140) rfl ?_
                                                                by_cases h41 : v33 = 0
                                                                · rw [if_pos h41] at H
                                                                  refine n_ifF (n_q md_251 rfl) (fun e1 => of_decide_eq_true e1 h41) ?_
                                                                  refine g_go 2 md_251 (i1 := 1143) rfl ?_
                                                                  refine g_lald (n_q md_251 rfl) ?_
                                                                  refine g_go 2 md_251 (i1 := 1146) rfl ?_
                                                                  refine n_go (n_q md_251 rfl) (fun _ => rfl) ?_
                                                                  by_cases h42 : (lg_cmp ((s38 564 0).toInt64) v37.toInt64) = 0
                                                                  · rw [if_pos h42] at H
                                                                    refine n_ifT (n_q md_251 rfl) (decide_eq_true h42) ?_
                                                                    refine g_go 3 md_251 (i1 := 13) (ls1 := [some (.ref 1000000), some (.ref 0), some (.ref 199), some (.ref 564), some (.int (x4 + 7)), some (.int v33), some (.int v37)]) rfl ?_
                                                                    cases H
                                                                    exact K0 (x4 + 7, (s38, ex + k35)) rfl _ _
                                                                  · rw [if_neg h42] at H
                                                                    refine n_ifF (n_q md_251 rfl) (fun e1 => h42 (of_decide_eq_true e1)) ?_
                                                                    refine g_go 1 md_251 (i1 := 1149) rfl ?_
                                                                    cases H
                                                                    rw [← Kr _ rfl]
                                                                    exact n_iret (n_q md_251 rfl) (Or.inr rfl)
                                                                · rw [if_neg h41] at H
                                                                  refine n_ifT (n_q md_251 rfl) (decide_eq_true h41) ?_
                                                                  refine g_go 3 md_251 (i1 := 13) (ls1 := [some (.ref 1000000), some (.ref 0), some (.ref 199), some (.ref 564), some (.int (x4 + 7)), some (.int v33), some (.int v37)]) rfl ?_
                                                                  cases H
                                                                  exact K0 (x4 + 7, (s38, ex + k35)) rfl _ _
                                                              · rw [if_neg h40] at H
                                                                refine n_cmpF (n_q md_251 rfl) (fun e1 => h40 (of_decide_eq_true e1)) ?_
                                                                refine g_go 1 md_251 (i1 := 1138) rfl ?_
                                                                cases H
                                                                rw [← Kr _ rfl]
                                                                exact n_iret (n_q md_251 rfl) (Or.inr rfl)
                                                            · rw [if_neg h36] at H
                                                              refine n_ifF (n_q md_251 rfl) (fun e1 => h36 (of_decide_eq_true e1)) ?_
                                                              refine g_go 2 md_251 (i1 := 1131) rfl ?_
                                                              obtain ⟨v37, s38, hv37, H⟩ := g_bdp H
                                                              refine n_callv (n_q md_251 rfl) (As := [.ref 199, .int (X.2 (x4 + 1).toNatClampNeg), .int 1]) (rest := []) rfl rfl (Nat.le_of_ble_eq_true rfl) rfl (g_recv (b := 0) rfl t_199 rfl) (C206 (by omega) hv37) ?_
                                                              refine g_go 2 md_251 (i1 := 1134) (ls1 := [some (.ref 1000000), some (.ref 0), some (.ref 199), some (.ref 564), some (.int x4), some (.int v33), some (.int v37)]) rfl ?_
                                                              obtain ⟨v39, hv39, H⟩ := g_bind H
                                                              refine n_callv (n_q md_251 rfl) (As := [.ref 199]) (rest := []) rfl rfl (Nat.le_of_ble_eq_true rfl) rfl (g_recv (b := 0) rfl t_199 rfl) (C133 (by omega) hv39) ?_
                                                              refine g_go 1 md_251 (i1 := 1136) rfl ?_
                                                              by_cases h40 : v39 = v33
                                                              · rw [if_pos h40] at H
                                                                refine n_cmpT (n_q md_251 rfl) (decide_eq_true h40) ?_
                                                                refine g_go 1 md_251 (i1 := 1140) rfl ?_
                                                                by_cases h41 : v33 = 0
                                                                · rw [if_pos h41] at H
                                                                  refine n_ifF (n_q md_251 rfl) (fun e1 => of_decide_eq_true e1 h41) ?_
                                                                  refine g_go 2 md_251 (i1 := 1143) rfl ?_
                                                                  refine g_lald (n_q md_251 rfl) ?_
                                                                  refine g_go 2 md_251 (i1 := 1146) rfl ?_
                                                                  refine n_go (n_q md_251 rfl) (fun _ => rfl) ?_
                                                                  by_cases h42 : (lg_cmp ((s38 564 0).toInt64) v37.toInt64) = 0
                                                                  · rw [if_pos h42] at H
                                                                    refine n_ifT (n_q md_251 rfl) (decide_eq_true h42) ?_
                                                                    refine g_go 3 md_251 (i1 := 13) (ls1 := [some (.ref 1000000), some (.ref 0), some (.ref 199), some (.ref 564), some (.int (x4 + 7)), some (.int v33), some (.int v37)]) rfl ?_
                                                                    cases H
                                                                    exact K0 (x4 + 7, (s38, ex + k35)) rfl _ _
                                                                  · rw [if_neg h42] at H
                                                                    refine n_ifF (n_q md_251 rfl) (fun e1 => h42 (of_decide_eq_true e1)) ?_
                                                                    refine g_go 1 md_251 (i1 := 1149) rfl ?_
                                                                    cases H
                                                                    rw [← Kr _ rfl]
                                                                    exact n_iret (n_q md_251 rfl) (Or.inr rfl)
                                                                · rw [if_neg h41] at H
                                                                  refine n_ifT (n_q md_251 rfl) (decide_eq_true h41) ?_
                                                                  refine g_go 3 md_251 (i1 := 13) (ls1 := [some (.ref 1000000), some (.ref 0), some (.ref 199), some (.ref 564), some (.int (x4 + 7)), some (.int v33), some (.int v37)]) rfl ?_
                                                                  cases H
                                                                  exact K0 (x4 + 7, (s38, ex + k35)) rfl _ _
                                                              · rw [if_neg h40] at H
                                                                refine n_cmpF (n_q md_251 rfl) (fun e1 => h40 (of_decide_eq_true e1)) ?_
                                                                refine g_go 1 md_251 (i1 := 1138) rfl ?_
                                                                cases H
                                                                rw [← Kr _ rfl]
                                                                exact n_iret (n_q md_251 rfl) (Or.inr rfl)
                                                        · rw [if_neg h29] at H ⊢
                                                          unfold m_sw
                                                          by_cases h30 : ((X.2 x4.toNatClampNeg) &&& 63) = 27
                                                          · rw [if_pos h30] at H ⊢
                                                            refine g_go 1 md_251 (i1 := 1152) rfl ?_
                                                            obtain ⟨v31, s32, hv31, H⟩ := g_bdp H
                                                            refine n_callv (n_q md_251 rfl) (As := [.ref 0]) (rest := []) rfl rfl (Nat.le_of_ble_eq_true rfl) rfl (g_recv (b := 0) rfl t_0 rfl) (C105 (by omega) hv31) ?_
                                                            refine g_go 1 md_251 (i1 := 1154) rfl ?_
                                                            obtain ⟨v33, s34, hv33, H⟩ := g_bdp H
                                                            refine n_callv (n_q md_251 rfl) (As := [.ref 199]) (rest := [.int v31]) rfl rfl (Nat.le_of_ble_eq_true rfl) rfl (g_recv (b := 0) rfl t_199 rfl) (C208 (by omega) hv33) ?_
                                                            by_cases h35 : v31 = v33
                                                            · rw [if_pos h35] at H
                                                              refine n_cmpT (n_q md_251 rfl) (decide_eq_true h35) ?_
                                                              refine g_go 2 md_251 (i1 := 13) (ls1 := [some (.ref 1000000), some (.ref 0), some (.ref 199), some (.ref 564), some (.int (x4 + 7)), u5, u6]) rfl ?_
                                                              cases H
                                                              exact K0 (x4 + 7, (s34, ex)) rfl _ _
                                                            · rw [if_neg h35] at H
                                                              refine n_cmpF (n_q md_251 rfl) (fun e1 => h35 (of_decide_eq_true e1)) ?_
                                                              refine g_go 1 md_251 (i1 := 1157) rfl ?_
                                                              cases H
                                                              rw [← Kr _ rfl]
                                                              exact n_iret (n_q md_251 rfl) (Or.inr rfl)
                                                          · rw [if_neg h30] at H ⊢
                                                            unfold m_sw
                                                            by_cases h31 : ((X.2 x4.toNatClampNeg) &&& 63) = 28
                                                            · rw [if_pos h31] at H ⊢
                                                              refine g_go 5 md_251 (i1 := 1163) rfl ?_
                                                              obtain ⟨h32, H⟩ := g_gd H
                                                              refine n_scr (n_q md_251 rfl) h32 ?_
                                                              refine g_go 4 md_251 (i1 := 1168) rfl ?_
                                                              obtain ⟨h33, H⟩ := g_gd H
                                                              refine n_scr (n_q md_251 rfl) h33 ?_
                                                              refine g_go 1 md_251 (i1 := 1170) rfl ?_
                                                              obtain ⟨v34, k36, s35, hv34, H⟩ := g_wdp H
                                                              refine n_callv (n_q md_251 rfl) (As := [.ref 0, .int (X.2 (x4 + 1).toNatClampNeg), .int (X.2 (x4 + 2).toNatClampNeg), .ref 564]) (rest := []) rfl rfl (Nat.le_of_ble_eq_true rfl) rfl rfl (C245 (by omega) hv34) ?_
                                                              refine g_go 6 md_251 (i1 := 1177) (ls1 := [some (.ref 1000000), some (.ref 0), some (.ref 199), some (.ref 564), some (.int x4), some (.int v34), u6]) rfl ?_
                                                              refine n_scr (n_q md_251 rfl) h32 ?_
                                                              refine g_go 4 md_251 (i1 := 1182) rfl ?_
                                                              refine n_scr (n_q md_251 rfl) h33 ?_
                                                              obtain ⟨v37, s38, hv37, H⟩ := g_bdp H
                                                              refine n_callv (n_q md_251 rfl) (As := [.ref 199, .int (X.2 (x4 + 1).toNatClampNeg), .int (X.2 (x4 + 2).toNatClampNeg)]) (rest := []) rfl rfl (Nat.le_of_ble_eq_true rfl) rfl (g_recv (b := 0) rfl t_199 rfl) (C209 (by omega) hv37) ?_
                                                              refine g_go 2 md_251 (i1 := 1186) (ls1 := [some (.ref 1000000), some (.ref 0), some (.ref 199), some (.ref 564), some (.int x4), some (.int v34), some (.int v37)]) rfl ?_
                                                              obtain ⟨v39, hv39, H⟩ := g_bind H
                                                              refine n_callv (n_q md_251 rfl) (As := [.ref 199]) (rest := []) rfl rfl (Nat.le_of_ble_eq_true rfl) rfl (g_recv (b := 0) rfl t_199 rfl) (C133 (by omega) hv39) ?_
                                                              refine g_go 1 md_251 (i1 := 1188) rfl ?_
                                                              by_cases h40 : v39 = v34
                                                              · rw [if_pos h40] at H
                                                                refine n_cmpT (n_q md_251 rfl) (decide_eq_true h40) ?_
                                                                refine g_go 1 md_251 (i1 := 1192) rfl ?_
                                                                by_cases h41 : v34 = 0
                                                                · rw [if_pos h41] at H
                                                                  refine n_ifF (n_q md_251 rfl) (fun e1 => of_decide_eq_true e1 h41) ?_
                                                                  refine g_go 2 md_251 (i1 := 1195) rfl ?_
                                                                  refine g_lald (n_q md_251 rfl) ?_
                                                                  refine g_go 2 md_251 (i1 := 1198) rfl ?_
                                                                  refine n_go (n_q md_251 rfl) (fun _ => rfl) ?_
                                                                  by_cases h42 : (lg_cmp ((s38 564 0).toInt64) v37.toInt64) = 0
                                                                  · rw [if_pos h42] at H
                                                                    refine n_ifT (n_q md_251 rfl) (decide_eq_true h42) ?_
                                                                    refine g_go 3 md_251 (i1 := 13) (ls1 := [some (.ref 1000000), some (.ref 0), some (.ref 199), some (.ref 564), some (.int (x4 + 7)), some (.int v34), some (.int v37)]) rfl ?_
                                                                    cases H
                                                                    exact K0 (x4 + 7, (s38, ex + k36)) rfl _ _
                                                                  · rw [if_neg h42] at H
                                                                    refine n_ifF (n_q md_251 rfl) (fun e1 => h42 (of_decide_eq_true e1)) ?_
                                                                    refine g_go 1 md_251 (i1 := 1201) rfl ?_
                                                                    cases H
                                                                    rw [← Kr _ rfl]
                                                                    exact n_iret (n_q md_251 rfl) (Or.inr rfl)
                                                                · rw [if_neg h41] at H
                                                                  refine n_ifT (n_q md_251 rfl) (decide_eq_true h41) ?_
                                                                  refine g_go 3 md_251 (i1 := 13) (ls1 := [some (.ref 1000000), some (.ref 0), some (.ref 199), some (.ref 564), some (.int (x4 + 7)), some (.int v34), some (.int v37)]) rfl ?_
                                                                  cases H
                                                                  exact K0 (x4 + 7, (s38, ex + k36)) rfl _ _
                                                              · rw [if_neg h40] at H
                                                                refine n_cmpF (n_q md_251 rfl) (fun e1 => h40 (of_decide_eq_true e1)) ?_
                                                                refine g_go 1 md_251 (i1 := 1190) rfl ?_
                                                                cases H
                                                                rw [← Kr _ rfl]
                                                                exact n_iret (n_q md_251 rfl) (Or.inr rfl)
                                                            · rw [if_neg h31] at H ⊢
                                                              unfold m_sw
                                                              by_cases h32 : ((X.2 x4.toNatClampNeg) &&& 63) = 29
                                                              · rw [if_pos h32] at H ⊢
                                                                refine g_go 5 md_251 (i1 := 1208) rfl ?_
                                                                obtain ⟨h33, H⟩ := g_gd H
                                                                refine n_scr (n_q md_251 rfl) h33 ?_
                                                                refine g_go 4 md_251 (i1 := 1213) rfl ?_
                                                                obtain ⟨h34, H⟩ := g_gd H
                                                                refine n_scr (n_q md_251 rfl) h34 ?_
                                                                refine g_go 1 md_251 (i1 := 1215) rfl ?_
                                                                obtain ⟨v35, k37, s36, hv35, H⟩ := g_wdp H
                                                                refine n_callv (n_q md_251 rfl) (As := [.ref 0, .int (X.2 (x4 + 1).toNatClampNeg), .int (X.2 (x4 + 2).toNatClampNeg), .ref 564]) (rest := []) rfl rfl (Nat.le_of_ble_eq_true rfl) rfl rfl (C246 (by omega) hv35) ?_
                                                                refine g_go 6 md_251 (i1 := 1222) (ls1 := [some (.ref 1000000), some (.ref 0), some (.ref 199), some (.ref 564), some (.int x4), some (.int v35), u6]) rfl ?_
                                                                refine n_scr (n_q md_251 rfl) h33 ?_
                                                                refine g_go 4 md_251 (i1 := 1227) rfl ?_
                                                                refine n_scr (n_q md_251 rfl) h34 ?_
                                                                obtain ⟨v38, s39, hv38, H⟩ := g_bdp H
                                                                refine n_callv (n_q md_251 rfl) (As := [.ref 199, .int (X.2 (x4 + 1).toNatClampNeg), .int (X.2 (x4 + 2).toNatClampNeg)]) (rest := []) rfl rfl (Nat.le_of_ble_eq_true rfl) rfl (g_recv (b := 0) rfl t_199 rfl) (C210 (by omega) hv38) ?_
                                                                refine g_go 2 md_251 (i1 := 1231) (ls1 := [some (.ref 1000000), some (.ref 0), some (.ref 199), some (.ref 564), some (.int x4), some (.int v35), some (.int v38)]) rfl ?_
                                                                obtain ⟨v40, hv40, H⟩ := g_bind H
                                                                refine n_callv (n_q md_251 rfl) (As := [.ref 199]) (rest := []) rfl rfl (Nat.le_of_ble_eq_true rfl) rfl (g_recv (b := 0) rfl t_199 rfl) (C133 (by omega) hv40) ?_
                                                                refine g_go 1 md_251 (i1 := 1233) rfl ?_
                                                                by_cases h41 : v40 = v35
                                                                · rw [if_pos h41] at H
                                                                  refine n_cmpT (n_q md_251 rfl) (decide_eq_true h41) ?_
                                                                  refine g_go 1 md_251 (i1 := 1237) rfl ?_
                                                                  by_cases h42 : v35 = 0
                                                                  · rw [if_pos h42] at H
                                                                    refine n_ifF (n_q md_251 rfl) (fun e1 => of_decide_eq_true e1 h42) ?_
                                                                    refine g_go 2 md_251 (i1 := 1240) rfl ?_
                                                                    refine g_lald (n_q md_251 rfl) ?_
                                                                    refine g_go 2 md_251 (i1 := 1243) rfl ?_
                                                                    refine n_go (n_q md_251 rfl) (fun _ => rfl) ?_
                                                                    by_cases h43 : (lg_cmp ((s39 564 0).toInt64) v38.toInt64) = 0
                                                                    · rw [if_pos h43] at H
                                                                      refine n_ifT (n_q md_251 rfl) (decide_eq_true h43) ?_
                                                                      refine g_go 3 md_251 (i1 := 13) (ls1 := [some (.ref 1000000), some (.ref 0), some (.ref 199), some (.ref 564), some (.int (x4 + 7)), some (.int v35), some (.int v38)]) rfl ?_
                                                                      cases H
                                                                      exact K0 (x4 + 7, (s39, ex + k37)) rfl _ _
                                                                    · rw [if_neg h43] at H
                                                                      refine n_ifF (n_q md_251 rfl) (fun e1 => h43 (of_decide_eq_true e1)) ?_
                                                                      refine g_go 1 md_251 (i1 := 1246) rfl ?_
                                                                      cases H
                                                                      rw [← Kr _ rfl]
                                                                      exact n_iret (n_q md_251 rfl) (Or.inr rfl)
                                                                  · rw [if_neg h42] at H
                                                                    refine n_ifT (n_q md_251 rfl) (decide_eq_true h42) ?_
                                                                    refine g_go 3 md_251 (i1 := 13) (ls1 := [some (.ref 1000000), some (.ref 0), some (.ref 199), some (.ref 564), some (.int (x4 + 7)), some (.int v35), some (.int v38)]) rfl ?_
                                                                    cases H
                                                                    exact K0 (x4 + 7, (s39, ex + k37)) rfl _ _
                                                                · rw [if_neg h41] at H
                                                                  refine n_cmpF (n_q md_251 rfl) (fun e1 => h41 (of_decide_eq_true e1)) ?_
                                                                  refine g_go 1 md_251 (i1 := 1235) rfl ?_
                                                                  cases H
                                                                  rw [← Kr _ rfl]
                                                                  exact n_iret (n_q md_251 rfl) (Or.inr rfl)
                                                              · rw [if_neg h32] at H ⊢
                                                                unfold m_sw
                                                                by_cases h33 : ((X.2 x4.toNatClampNeg) &&& 63) = 30
                                                                · rw [if_pos h33] at H ⊢
                                                                  refine g_go 5 md_251 (i1 := 1253) rfl ?_
                                                                  obtain ⟨h34, H⟩ := g_gd H
                                                                  refine n_scr (n_q md_251 rfl) h34 ?_
                                                                  refine g_go 4 md_251 (i1 := 1258) rfl ?_
                                                                  obtain ⟨h35, H⟩ := g_gd H
                                                                  refine n_scr (n_q md_251 rfl) h35 ?_
                                                                  refine g_go 1 md_251 (i1 := 1260) rfl ?_
                                                                  obtain ⟨v36, k38, s37, hv36, H⟩ := g_wdp H
                                                                  refine n_callv (n_q md_251 rfl) (As := [.ref 0, .int (X.2 (x4 + 1).toNatClampNeg), .int (X.2 (x4 + 2).toNatClampNeg), .ref 564]) (rest := []) rfl rfl (Nat.le_of_ble_eq_true rfl) rfl rfl (C247 (by omega) hv36) ?_
                                                                  refine g_go 6 md_251 (i1 := 1267) (ls1 := [some (.ref 1000000), some (.ref 0), some (.ref 199), some (.ref 564), some (.int x4), some (.int v36), u6]) rfl ?_
                                                                  refine n_scr (n_q md_251 rfl) h34 ?_
                                                                  refine g_go 4 md_251 (i1 := 1272) rfl ?_
                                                                  refine n_scr (n_q md_251 rfl) h35 ?_
                                                                  obtain ⟨v39, s40, hv39, H⟩ := g_bdp H
                                                                  refine n_callv (n_q md_251 rfl) (As := [.ref 199, .int (X.2 (x4 + 1).toNatClampNeg), .int (X.2 (x4 + 2).toNatClampNeg)]) (rest := []) rfl rfl (Nat.le_of_ble_eq_true rfl) rfl (g_recv (b := 0) rfl t_199 rfl) (C211 (by omega) hv39) ?_
                                                                  refine g_go 2 md_251 (i1 := 1276) (ls1 := [some (.ref 1000000), some (.ref 0), some (.ref 199), some (.ref 564), some (.int x4), some (.int v36), some (.int v39)]) rfl ?_
                                                                  obtain ⟨v41, hv41, H⟩ := g_bind H
                                                                  refine n_callv (n_q md_251 rfl) (As := [.ref 199]) (rest := []) rfl rfl (Nat.le_of_ble_eq_true rfl) rfl (g_recv (b := 0) rfl t_199 rfl) (C133 (by omega) hv41) ?_
                                                                  refine g_go 1 md_251 (i1 := 1278) rfl ?_
                                                                  by_cases h42 : v41 = v36
                                                                  · rw [if_pos h42] at H
                                                                    refine n_cmpT (n_q md_251 rfl) (decide_eq_true h42) ?_
                                                                    refine g_go 1 md_251 (i1 := 1282) rfl ?_
                                                                    by_cases h43 : v36 = 0
                                                                    · rw [if_pos h43] at H
                                                                      refine n_ifF (n_q md_251 rfl) (fun e1 => of_decide_eq_true e1 h43) ?_
                                                                      refine g_go 2 md_251 (i1 := 1285) rfl ?_
                                                                      refine g_lald (n_q md_251 rfl) ?_
                                                                      refine g_go 2 md_251 (i1 := 1288) rfl ?_
                                                                      refine n_go (n_q md_251 rfl) (fun _ => rfl) ?_
                                                                      by_cases h44 : (lg_cmp ((s40 564 0).toInt64) v39.toInt64) = 0
                                                                      · rw [if_pos h44] at H
                                                                        refine n_ifT (n_q md_251 rfl) (decide_eq_true h44) ?_
                                                                        refine g_go 3 md_251 (i1 := 13) (ls1 := [some (.ref 1000000), some (.ref 0), some (.ref 199), some (.ref 564), some (.int (x4 + 7)), some (.int v36), some (.int v39)]) rfl ?_
                                                                        cases H
                                                                        exact K0 (x4 + 7, (s40, ex + k38)) rfl _ _
                                                                      · rw [if_neg h44] at H
                                                                        refine n_ifF (n_q md_251 rfl) (fun e1 => h44 (of_decide_eq_true e1)) ?_
                                                                        refine g_go 1 md_251 (i1 := 1291) rfl ?_
                                                                        cases H
                                                                        rw [← Kr _ rfl]
                                                                        exact n_iret (n_q md_251 rfl) (Or.inr rfl)
                                                                    · rw [if_neg h43] at H
                                                                      refine n_ifT (n_q md_251 rfl) (decide_eq_true h43) ?_
                                                                      refine g_go 3 md_251 (i1 := 13) (ls1 := [some (.ref 1000000), some (.ref 0), some (.ref 199), some (.ref 564), some (.int (x4 + 7)), some (.int v36), some (.int v39)]) rfl ?_
                                                                      cases H
                                                                      exact K0 (x4 + 7, (s40, ex + k38)) rfl _ _
                                                                  · rw [if_neg h42] at H
                                                                    refine n_cmpF (n_q md_251 rfl) (fun e1 => h42 (of_decide_eq_true e1)) ?_
                                                                    refine g_go 1 md_251 (i1 := 1280) rfl ?_
                                                                    cases H
                                                                    rw [← Kr _ rfl]
                                                                    exact n_iret (n_q md_251 rfl) (Or.inr rfl)
                                                                · rw [if_neg h33] at H ⊢
                                                                  unfold m_sw
                                                                  by_cases h34 : ((X.2 x4.toNatClampNeg) &&& 63) = 31
                                                                  · rw [if_pos h34] at H ⊢
                                                                    refine g_go 5 md_251 (i1 := 1298) rfl ?_
                                                                    obtain ⟨h35, H⟩ := g_gd H
                                                                    refine n_scr (n_q md_251 rfl) h35 ?_
                                                                    refine g_go 4 md_251 (i1 := 1303) rfl ?_
                                                                    obtain ⟨h36, H⟩ := g_gd H
                                                                    refine n_scr (n_q md_251 rfl) h36 ?_
                                                                    refine g_go 1 md_251 (i1 := 1305) rfl ?_
                                                                    obtain ⟨v37, k39, s38, hv37, H⟩ := g_wdp H
                                                                    refine n_callv (n_q md_251 rfl) (As := [.ref 0, .int (X.2 (x4 + 1).toNatClampNeg), .int (X.2 (x4 + 2).toNatClampNeg), .ref 564]) (rest := []) rfl rfl (Nat.le_of_ble_eq_true rfl) rfl rfl (C248 (by omega) hv37) ?_
                                                                    refine g_go 6 md_251 (i1 := 1312) (ls1 := [some (.ref 1000000), some (.ref 0), some (.ref 199), some (.ref 564), some (.int x4), some (.int v37), u6]) rfl ?_
                                                                    refine n_scr (n_q md_251 rfl) h35 ?_
                                                                    refine g_go 4 md_251 (i1 := 1317) rfl ?_
                                                                    refine n_scr (n_q md_251 rfl) h36 ?_
                                                                    obtain ⟨v40, s41, hv40, H⟩ := g_bdp H
                                                                    refine n_callv (n_q md_251 rfl) (As := [.ref 199, .int (X.2 (x4 + 1).toNatClampNeg), .int (X.2 (x4 + 2).toNatClampNeg)]) (rest := []) rfl rfl (Nat.le_of_ble_eq_true rfl) rfl (g_recv (b := 0) rfl t_199 rfl) (C212 (by omega) hv40) ?_
                                                                    refine g_go 2 md_251 (i1 := 1321) (ls1 := [some (.ref 1000000), some (.ref 0), some (.ref 199), some (.ref 564), some (.int x4), some (.int v37), some (.int v40)]) rfl ?_
                                                                    obtain ⟨v42, hv42, H⟩ := g_bind H
                                                                    refine n_callv (n_q md_251 rfl) (As := [.ref 199]) (rest := []) rfl rfl (Nat.le_of_ble_eq_true rfl) rfl (g_recv (b := 0) rfl t_199 rfl) (C133 (by omega) hv42) ?_
                                                                    refine g_go 1 md_251 (i1 := 1323) rfl ?_
                                                                    by_cases h43 : v42 = v37
                                                                    · rw [if_pos h43] at H
                                                                      refine n_cmpT (n_q md_251 rfl) (decide_eq_true h43) ?_
                                                                      refine g_go 1 md_251 (i1 := 1327) rfl ?_
                                                                      by_cases h44 : v37 = 0
                                                                      · rw [if_pos h44] at H
                                                                        refine n_ifF (n_q md_251 rfl) (fun e1 => of_decide_eq_true e1 h44) ?_
                                                                        refine g_go 2 md_251 (i1 := 1330) rfl ?_
                                                                        refine g_lald (n_q md_251 rfl) ?_
                                                                        refine g_go 2 md_251 (i1 := 1333) rfl ?_
                                                                        refine n_go (n_q md_251 rfl) (fun _ => rfl) ?_
                                                                        by_cases h45 : (lg_cmp ((s41 564 0).toInt64) v40.toInt64) = 0
                                                                        · rw [if_pos h45] at H
                                                                          refine n_ifT (n_q md_251 rfl) (decide_eq_true h45) ?_
                                                                          refine g_go 3 md_251 (i1 := 13) (ls1 := [some (.ref 1000000), some (.ref 0), some (.ref 199), some (.ref 564), some (.int (x4 + 7)), some (.int v37), some (.int v40)]) rfl ?_
                                                                          cases H
                                                                          exact K0 (x4 + 7, (s41, ex + k39)) rfl _ _
                                                                        · rw [if_neg h45] at H
                                                                          refine n_ifF (n_q md_251 rfl) (fun e1 => h45 (of_decide_eq_true e1)) ?_
                                                                          refine g_go 1 md_251 (i1 := 1336) rfl ?_
                                                                          cases H
                                                                          rw [← Kr _ rfl]
                                                                          exact n_iret (n_q md_251 rfl) (Or.inr rfl)
                                                                      · rw [if_neg h44] at H
                                                                        refine n_ifT (n_q md_251 rfl) (decide_eq_true h44) ?_
                                                                        refine g_go 3 md_251 (i1 := 13) (ls1 := [some (.ref 1000000), some (.ref 0), some (.ref 199), some (.ref 564), some (.int (x4 + 7)), some (.int v37), some (.int v40)]) rfl ?_
                                                                        cases H
                                                                        exact K0 (x4 + 7, (s41, ex + k39)) rfl _ _
                                                                    · rw [if_neg h43] at H
                                                                      refine n_cmpF (n_q md_251 rfl) (fun e1 => h43 (of_decide_eq_true e1)) ?_
                                                                      refine g_go 1 md_251 (i1 := 1325) rfl ?_
                                                                      cases H
                                                                      rw [← Kr _ rfl]
                                                                      exact n_iret (n_q md_251 rfl) (Or.inr rfl)
                                                                  · rw [if_neg h34] at H ⊢
                                                                    unfold m_sw
                                                                    by_cases h35 : ((X.2 x4.toNatClampNeg) &&& 63) = 32
                                                                    · rw [if_pos h35] at H ⊢
                                                                      refine g_go 1 md_251 (i1 := 1339) rfl ?_
                                                                      obtain ⟨v36, s37, hv36, H⟩ := g_bdp H
                                                                      refine n_callv (n_q md_251 rfl) (As := [.ref 0]) (rest := []) rfl rfl (Nat.le_of_ble_eq_true rfl) rfl (g_recv (b := 0) rfl t_0 rfl) (C110 (by omega) hv36) ?_
                                                                      refine g_go 1 md_251 (i1 := 1341) rfl ?_
                                                                      obtain ⟨v38, s39, hv38, H⟩ := g_bdp H
                                                                      refine n_callv (n_q md_251 rfl) (As := [.ref 199]) (rest := [.int v36]) rfl rfl (Nat.le_of_ble_eq_true rfl) rfl (g_recv (b := 0) rfl t_199 rfl) (C213 (by omega) hv38) ?_
                                                                      by_cases h40 : v36 = v38
                                                                      · rw [if_pos h40] at H
                                                                        refine n_cmpT (n_q md_251 rfl) (decide_eq_true h40) ?_
                                                                        refine g_go 2 md_251 (i1 := 13) (ls1 := [some (.ref 1000000), some (.ref 0), some (.ref 199), some (.ref 564), some (.int (x4 + 7)), u5, u6]) rfl ?_
                                                                        cases H
                                                                        exact K0 (x4 + 7, (s39, ex)) rfl _ _
                                                                      · rw [if_neg h40] at H
                                                                        refine n_cmpF (n_q md_251 rfl) (fun e1 => h40 (of_decide_eq_true e1)) ?_
                                                                        refine g_go 1 md_251 (i1 := 1344) rfl ?_
                                                                        cases H
                                                                        rw [← Kr _ rfl]
                                                                        exact n_iret (n_q md_251 rfl) (Or.inr rfl)
                                                                    · rw [if_neg h35] at H ⊢
                                                                      unfold m_sw
                                                                      by_cases h36 : ((X.2 x4.toNatClampNeg) &&& 63) = 33
                                                                      · rw [if_pos h36] at H ⊢
                                                                        refine g_go 5 md_251 (i1 := 1350) rfl ?_
                                                                        obtain ⟨h37, H⟩ := g_gd H
                                                                        refine n_scr (n_q md_251 rfl) h37 ?_
                                                                        refine g_go 4 md_251 (i1 := 1355) rfl ?_
                                                                        obtain ⟨h38, H⟩ := g_gd H
                                                                        refine n_scr (n_q md_251 rfl) h38 ?_
                                                                        refine g_go 1 md_251 (i1 := 1357) rfl ?_
                                                                        obtain ⟨v39, k41, s40, hv39, H⟩ := g_wdp H
                                                                        refine n_callv (n_q md_251 rfl) (As := [.ref 0, .int (X.2 (x4 + 1).toNatClampNeg), .int (X.2 (x4 + 2).toNatClampNeg), .ref 564]) (rest := []) rfl rfl (Nat.le_of_ble_eq_true rfl) rfl rfl (C249 (by omega) hv39) ?_
                                                                        refine g_go 6 md_251 (i1 := 1364) (ls1 := [some (.ref 1000000), some (.ref 0), some (.ref 199), some (.ref 564), some (.int x4), some (.int v39), u6]) rfl ?_
                                                                        refine n_scr (n_q md_251 rfl) h37 ?_
                                                                        refine g_go 4 md_251 (i1 := 1369) rfl ?_
                                                                        refine n_scr (n_q md_251 rfl) h38 ?_
                                                                        obtain ⟨v42, s43, hv42, H⟩ := g_bdp H
                                                                        refine n_callv (n_q md_251 rfl) (As := [.ref 199, .int (X.2 (x4 + 1).toNatClampNeg), .int (X.2 (x4 + 2).toNatClampNeg)]) (rest := []) rfl rfl (Nat.le_of_ble_eq_true rfl) rfl (g_recv (b := 0) rfl t_199 rfl) (C215 (by omega) hv42) ?_
                                                                        refine g_go 2 md_251 (i1 := 1373) (ls1 := [some (.ref 1000000), some (.ref 0), some (.ref 199), some (.ref 564), some (.int x4), some (.int v39), some (.int v42)]) rfl ?_
                                                                        obtain ⟨v44, hv44, H⟩ := g_bind H
                                                                        refine n_callv (n_q md_251 rfl) (As := [.ref 199]) (rest := []) rfl rfl (Nat.le_of_ble_eq_true rfl) rfl (g_recv (b := 0) rfl t_199 rfl) (C133 (by omega) hv44) ?_
                                                                        refine g_go 1 md_251 (i1 := 1375) rfl ?_
                                                                        by_cases h45 : v44 = v39
                                                                        · rw [if_pos h45] at H
                                                                          refine n_cmpT (n_q md_251 rfl) (decide_eq_true h45) ?_
                                                                          refine g_go 1 md_251 (i1 := 1379) rfl ?_
                                                                          by_cases h46 : v39 = 0
                                                                          · rw [if_pos h46] at H
                                                                            refine n_ifF (n_q md_251 rfl) (fun e1 => of_decide_eq_true e1 h46) ?_
                                                                            refine g_go 2 md_251 (i1 := 1382) rfl ?_
                                                                            refine g_lald (n_q md_251 rfl) ?_
                                                                            refine g_go 2 md_251 (i1 := 1385) rfl ?_
                                                                            refine n_go (n_q md_251 rfl) (fun _ => rfl) ?_
                                                                            by_cases h47 : (lg_cmp ((s43 564 0).toInt64) v42.toInt64) = 0
                                                                            · rw [if_pos h47] at H
                                                                              refine n_ifT (n_q md_251 rfl) (decide_eq_true h47) ?_
                                                                              refine g_go 3 md_251 (i1 := 13) (ls1 := [some (.ref 1000000), some (.ref 0), some (.ref 199), some (.ref 564), some (.int (x4 + 7)), some (.int v39), some (.int v42)]) rfl ?_
                                                                              cases H
                                                                              exact K0 (x4 + 7, (s43, ex + k41)) rfl _ _
                                                                            · rw [if_neg h47] at H
                                                                              refine n_ifF (n_q md_251 rfl) (fun e1 => h47 (of_decide_eq_true e1)) ?_
                                                                              refine g_go 1 md_251 (i1 := 1388) rfl ?_
                                                                              cases H
                                                                              rw [← Kr _ rfl]
                                                                              exact n_iret (n_q md_251 rfl) (Or.inr rfl)
                                                                          · rw [if_neg h46] at H
                                                                            refine n_ifT (n_q md_251 rfl) (decide_eq_true h46) ?_
                                                                            refine g_go 3 md_251 (i1 := 13) (ls1 := [some (.ref 1000000), some (.ref 0), some (.ref 199), some (.ref 564), some (.int (x4 + 7)), some (.int v39), some (.int v42)]) rfl ?_
                                                                            cases H
                                                                            exact K0 (x4 + 7, (s43, ex + k41)) rfl _ _
                                                                        · rw [if_neg h45] at H
                                                                          refine n_cmpF (n_q md_251 rfl) (fun e1 => h45 (of_decide_eq_true e1)) ?_
                                                                          refine g_go 1 md_251 (i1 := 1377) rfl ?_
                                                                          cases H
                                                                          rw [← Kr _ rfl]
                                                                          exact n_iret (n_q md_251 rfl) (Or.inr rfl)
                                                                      · rw [if_neg h36] at H ⊢
                                                                        unfold m_sw
                                                                        by_cases h37 : ((X.2 x4.toNatClampNeg) &&& 63) = 34
                                                                        · rw [if_pos h37] at H ⊢
                                                                          refine g_go 5 md_251 (i1 := 1395) rfl ?_
                                                                          obtain ⟨h38, H⟩ := g_gd H
                                                                          refine n_scr (n_q md_251 rfl) h38 ?_
                                                                          refine g_go 4 md_251 (i1 := 1400) rfl ?_
                                                                          obtain ⟨h39, H⟩ := g_gd H
                                                                          refine n_scr (n_q md_251 rfl) h39 ?_
                                                                          refine g_go 1 md_251 (i1 := 1402) rfl ?_
                                                                          obtain ⟨v40, k42, s41, hv40, H⟩ := g_wdp H
                                                                          refine n_callv (n_q md_251 rfl) (As := [.ref 0, .int (X.2 (x4 + 1).toNatClampNeg), .int (X.2 (x4 + 2).toNatClampNeg), .ref 564]) (rest := []) rfl rfl (Nat.le_of_ble_eq_true rfl) rfl rfl (C250 (by omega) hv40) ?_
                                                                          refine g_go 6 md_251 (i1 := 1409) (ls1 := [some (.ref 1000000), some (.ref 0), some (.ref 199), some (.ref 564), some (.int x4), some (.int v40), u6]) rfl ?_
                                                                          refine n_scr (n_q md_251 rfl) h38 ?_
                                                                          refine g_go 4 md_251 (i1 := 1414) rfl ?_
                                                                          refine n_scr (n_q md_251 rfl) h39 ?_
                                                                          obtain ⟨v43, s44, hv43, H⟩ := g_bdp H
                                                                          refine n_callv (n_q md_251 rfl) (As := [.ref 199, .int (X.2 (x4 + 1).toNatClampNeg), .int (X.2 (x4 + 2).toNatClampNeg)]) (rest := []) rfl rfl (Nat.le_of_ble_eq_true rfl) rfl (g_recv (b := 0) rfl t_199 rfl) (C216 (by omega) hv43) ?_
                                                                          refine g_go 2 md_251 (i1 := 1418) (ls1 := [some (.ref 1000000), some (.ref 0), some (.ref 199), some (.ref 564), some (.int x4), some (.int v40), some (.int v43)]) rfl ?_
                                                                          obtain ⟨v45, hv45, H⟩ := g_bind H
                                                                          refine n_callv (n_q md_251 rfl) (As := [.ref 199]) (rest := []) rfl rfl (Nat.le_of_ble_eq_true rfl) rfl (g_recv (b := 0) rfl t_199 rfl) (C133 (by omega) hv45) ?_
                                                                          refine g_go 1 md_251 (i1 := 1420) rfl ?_
                                                                          by_cases h46 : v45 = v40
                                                                          · rw [if_pos h46] at H
                                                                            refine n_cmpT (n_q md_251 rfl) (decide_eq_true h46) ?_
                                                                            refine g_go 1 md_251 (i1 := 1424) rfl ?_
                                                                            by_cases h47 : v40 = 0
                                                                            · rw [if_pos h47] at H
                                                                              refine n_ifF (n_q md_251 rfl) (fun e1 => of_decide_eq_true e1 h47) ?_
                                                                              refine g_go 2 md_251 (i1 := 1427) rfl ?_
                                                                              refine g_lald (n_q md_251 rfl) ?_
                                                                              refine g_go 2 md_251 (i1 := 1430) rfl ?_
                                                                              refine n_go (n_q md_251 rfl) (fun _ => rfl) ?_
                                                                              by_cases h48 : (lg_cmp ((s44 564 0).toInt64) v43.toInt64) = 0
                                                                              · rw [if_pos h48] at H
                                                                                refine n_ifT (n_q md_251 rfl) (decide_eq_true h48) ?_
                                                                                refine g_go 3 md_251 (i1 := 13) (ls1 := [some (.ref 1000000), some (.ref 0), some (.ref 199), some (.ref 564), some (.int (x4 + 7)), some (.int v40), some (.int v43)]) rfl ?_
                                                                                cases H
                                                                                exact K0 (x4 + 7, (s44, ex + k42)) rfl _ _
                                                                              · rw [if_neg h48] at H
                                                                                refine n_ifF (n_q md_251 rfl) (fun e1 => h48 (of_decide_eq_true e1)) ?_
                                                                                refine g_go 1 md_251 (i1 := 1433) rfl ?_
                                                                                cases H
                                                                                rw [← Kr _ rfl]
                                                                                exact n_iret (n_q md_251 rfl) (Or.inr rfl)
                                                                            · rw [if_neg h47] at H
                                                                              refine n_ifT (n_q md_251 rfl) (decide_eq_true h47) ?_
                                                                              refine g_go 3 md_251 (i1 := 13) (ls1 := [some (.ref 1000000), some (.ref 0), some (.ref 199), some (.ref 564), some (.int (x4 + 7)), some (.int v40), some (.int v43)]) rfl ?_
                                                                              cases H
                                                                              exact K0 (x4 + 7, (s44, ex + k42)) rfl _ _
                                                                          · rw [if_neg h46] at H
                                                                            refine n_cmpF (n_q md_251 rfl) (fun e1 => h46 (of_decide_eq_true e1)) ?_
                                                                            refine g_go 1 md_251 (i1 := 1422) rfl ?_
                                                                            cases H
                                                                            rw [← Kr _ rfl]
                                                                            exact n_iret (n_q md_251 rfl) (Or.inr rfl)
                                                                        · rw [if_neg h37] at H ⊢
                                                                          unfold m_sw
                                                                          by_cases h38 : ((X.2 x4.toNatClampNeg) &&& 63) = 35
                                                                          · rw [if_pos h38] at H ⊢
                                                                            refine g_go 1 md_251 (i1 := 1436) rfl ?_
                                                                            obtain ⟨v39, s40, hv39, H⟩ := g_bdp H
                                                                            refine n_callv (n_q md_251 rfl) (As := [.ref 0]) (rest := []) rfl rfl (Nat.le_of_ble_eq_true rfl) rfl (g_recv (b := 0) rfl t_0 rfl) (C113 (by omega) hv39) ?_
                                                                            refine g_go 1 md_251 (i1 := 1438) rfl ?_
                                                                            obtain ⟨v41, s42, hv41, H⟩ := g_bdp H
                                                                            refine n_callv (n_q md_251 rfl) (As := [.ref 199]) (rest := [.int v39]) rfl rfl (Nat.le_of_ble_eq_true rfl) rfl (g_recv (b := 0) rfl t_199 rfl) (C219 (by omega) hv41) ?_
                                                                            by_cases h43 : v39 = v41
                                                                            · rw [if_pos h43] at H
                                                                              refine n_cmpT (n_q md_251 rfl) (decide_eq_true h43) ?_
                                                                              refine g_go 2 md_251 (i1 := 13) (ls1 := [some (.ref 1000000), some (.ref 0), some (.ref 199), some (.ref 564), some (.int (x4 + 7)), u5, u6]) rfl ?_
                                                                              cases H
                                                                              exact K0 (x4 + 7, (s42, ex)) rfl _ _
                                                                            · rw [if_neg h43] at H
                                                                              refine n_cmpF (n_q md_251 rfl) (fun e1 => h43 (of_decide_eq_true e1)) ?_
                                                                              refine g_go 1 md_251 (i1 := 1441) rfl ?_
                                                                              cases H
                                                                              rw [← Kr _ rfl]
                                                                              exact n_iret (n_q md_251 rfl) (Or.inr rfl)
                                                                          · rw [if_neg h38] at H ⊢
                                                                            unfold m_sw
                                                                            by_cases h39 : ((X.2 x4.toNatClampNeg) &&& 63) = 36
                                                                            · rw [if_pos h39] at H ⊢
                                                                              refine g_go 1 md_251 (i1 := 1443) rfl ?_
                                                                              obtain ⟨v40, s41, hv40, H⟩ := g_bdp H
                                                                              refine n_callv (n_q md_251 rfl) (As := [.ref 0]) (rest := []) rfl rfl (Nat.le_of_ble_eq_true rfl) rfl (g_recv (b := 0) rfl t_0 rfl) (C114 (by omega) hv40) ?_
                                                                              refine g_go 1 md_251 (i1 := 1445) rfl ?_
                                                                              obtain ⟨v42, s43, hv42, H⟩ := g_bdp H
                                                                              refine n_callv (n_q md_251 rfl) (As := [.ref 199]) (rest := [.int v40]) rfl rfl (Nat.le_of_ble_eq_true rfl) rfl (g_recv (b := 0) rfl t_199 rfl) (C220 (by omega) hv42) ?_
                                                                              by_cases h44 : v40 = v42
                                                                              · rw [if_pos h44] at H
                                                                                refine n_cmpT (n_q md_251 rfl) (decide_eq_true h44) ?_
                                                                                refine g_go 2 md_251 (i1 := 13) (ls1 := [some (.ref 1000000), some (.ref 0), some (.ref 199), some (.ref 564), some (.int (x4 + 7)), u5, u6]) rfl ?_
                                                                                cases H
                                                                                exact K0 (x4 + 7, (s43, ex)) rfl _ _
                                                                              · rw [if_neg h44] at H
                                                                                refine n_cmpF (n_q md_251 rfl) (fun e1 => h44 (of_decide_eq_true e1)) ?_
                                                                                refine g_go 1 md_251 (i1 := 1448) rfl ?_
                                                                                cases H
                                                                                rw [← Kr _ rfl]
                                                                                exact n_iret (n_q md_251 rfl) (Or.inr rfl)
                                                                            · rw [if_neg h39] at H ⊢
                                                                              unfold m_sw
                                                                              by_cases h40 : ((X.2 x4.toNatClampNeg) &&& 63) = 37
                                                                              · rw [if_pos h40] at H ⊢
                                                                                refine g_go 5 md_251 (i1 := 1454) rfl ?_
                                                                                obtain ⟨h41, H⟩ := g_gd H
                                                                                refine n_scr (n_q md_251 rfl) h41 ?_
                                                                                obtain ⟨v42, hv42, H⟩ := g_bind H
                                                                                refine n_callv (n_q md_251 rfl) (As := [.ref 0, .int (X.2 (x4 + 1).toNatClampNeg)]) (rest := []) rfl rfl (Nat.le_of_ble_eq_true rfl) rfl (g_recv (b := 0) rfl t_0 rfl) (C115 (by omega) hv42) ?_
                                                                                refine g_go 5 md_251 (i1 := 1461) rfl ?_
                                                                                refine n_scr (n_q md_251 rfl) h41 ?_
                                                                                obtain ⟨v43, s44, hv43, H⟩ := g_bdp H
                                                                                refine n_callv (n_q md_251 rfl) (As := [.ref 199, .int (X.2 (x4 + 1).toNatClampNeg)]) (rest := [.int v42]) rfl rfl (Nat.le_of_ble_eq_true rfl) rfl (g_recv (b := 0) rfl t_199 rfl) (C221 (by omega) hv43) ?_
                                                                                by_cases h45 : v42 = v43
                                                                                · rw [if_pos h45] at H
                                                                                  refine n_cmpT (n_q md_251 rfl) (decide_eq_true h45) ?_
                                                                                  refine g_go 2 md_251 (i1 := 13) (ls1 := [some (.ref 1000000), some (.ref 0), some (.ref 199), some (.ref 564), some (.int (x4 + 7)), u5, u6]) rfl ?_
                                                                                  cases H
                                                                                  exact K0 (x4 + 7, (s44, ex)) rfl _ _
                                                                                · rw [if_neg h45] at H
                                                                                  refine n_cmpF (n_q md_251 rfl) (fun e1 => h45 (of_decide_eq_true e1)) ?_
                                                                                  refine g_go 1 md_251 (i1 := 1465) rfl ?_
                                                                                  cases H
                                                                                  rw [← Kr _ rfl]
                                                                                  exact n_iret (n_q md_251 rfl) (Or.inr rfl)
                                                                              · rw [if_neg h40] at H ⊢
                                                                                unfold m_sw
                                                                                refine g_go 2 md_251 (i1 := 13) (ls1 := [some (.ref 1000000), some (.ref 0), some (.ref 199), some (.ref 564), some (.int (x4 + 7)), u5, u6]) rfl ?_
                                                                                cases H
                                                                                exact K0 (x4 + 7, (s, ex)) rfl _ _
noncomputable def f251L (X : m_X) (x4 : Int32) (s : g_S) (ex : Nat) : Option (Int32 × (g_S × Nat)) := g_run (fun S : Int32 × (g_S × Nat) => f251 X S.2.1 S.2.2 S.1) (x4, (s, ex))
theorem f251L_eq (X : m_X) (x4 : Int32) (s : g_S) (ex : Nat) : f251L X x4 s ex = g_st (f251 X s ex x4) (fun S => f251L X S.1 S.2.1 S.2.2) := by
  unfold f251L
  exact g_run_eq _ _
theorem P251L {d ex : Nat} {s : g_S} {x4 : Int32} {u5 u6 : Option Value} {z : Int32 × (g_S × Nat)} (H : f251L X x4 s ex = some z) (hd : 88 ≤ d) : n_R X (d + 1) 251 13 [some (.ref 1000000), some (.ref 0), some (.ref 199), some (.ref 564), some (.int x4), u5, u6] [] (g_M s ex) (g_rL z) := by
  unfold f251L at H
  refine g_rs (Q := fun S => ∀ u5 u6 : Option Value, n_R X (d + 1) 251 13 [some (.ref 1000000), some (.ref 0), some (.ref 199), some (.ref 564), some (.int S.1), u5, u6] [] (g_M S.2.1 S.2.2) (g_rL z)) H ?_ u5 u6
  intro S w hb K0 KK u5 u6
  refine P251 hb hd ?_ ?_
  · exact fun S1 e1 => K0 S1 e1
  · exact fun q e1 => by rw [KK q e1]

end K13
