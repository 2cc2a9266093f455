set_option maxRecDepth 100000 in
set_option maxHeartbeats 1000000 in
theorem j_L_law_1863 {p : Program} {l : Launch} {e : Env} {s : State} {m : MethodId} {args : Array Value} {below : List Frame} {meth : Method} {c : Code} {D : va_G} {aC : Nat → ClassId} {b0 fu : Nat} {σ0 τ : tM} {v : Int32} {b L : Nat} {xs : Nat → Int32} {rc23 : Nat → Nat → Nat → Int32 → tM → Option ((Int32) × tM)} (C : tCx p l s m args meth c yL_law.cls cL_law 8 (some .boolean) D aC b0 σ0) (htab : True) (hin : True) (hX : va_X b L xs s s.heap) (hbb : b < b0) (hrc23 : ∀ (x1 : Nat) (x2 : Nat) (x3 : Nat) (x4 : Int32) (ρ : tM), rc23 x1 x2 x3 x4 ρ = some (v, τ) → tX p l e s m args below meth c 8 14 271 D aC b0 σ0 (.inl (some (.int v))) τ 23 [(0, .ref (b)), (1, .ref (x1)), (2, .ref (x2)), (3, .ref (x3)), (4, .int (x4))] [] ρ) {x1 : Nat} {x2 : Nat} {x3 : Nat} {x4 : Int32} {σ : tM} (hm : J_L_law_1863 b0 fu L xs rc23 x1 x2 x3 x4 σ = some (v, τ)) : tX p l e s m args below meth c 8 14 271 D aC b0 σ0 (.inl (some (.int v))) τ 1863 [(0, .ref (b)), (1, .ref (x1)), (2, .ref (x2)), (3, .ref (x3)), (4, .int (x4))] [] σ := by
  unfold J_L_law_1863 at hm
  refine zx_aload_n C dL_law_1863 1 rfl ?_
  refine zx_aload_n C dL_law_1864 0 rfl ?_
  refine zx_iload C dL_law_1865 4 rfl ?_
  refine zx_iconst (v := 1) C dL_law_1867 (by decide) ?_
  refine zx_iadd C dL_law_1868 ?_
  obtain ⟨h662, hm⟩ := ckI_e hm
  refine zx_sld C hX hbb h662 dL_law_1869 ?_
  refine zx_aload_n C dL_law_1870 0 rfl ?_
  refine zx_iload C dL_law_1871 4 rfl ?_
  refine zx_iconst (v := 2) C dL_law_1873 (by decide) ?_
  refine zx_iadd C dL_law_1874 ?_
  obtain ⟨h663, hm⟩ := ckI_e hm
  refine zx_sld C hX hbb h663 dL_law_1875 ?_
  obtain ⟨k664, i665, hm⟩ := ckO_e hm
  obtain ⟨v666, ρ667, h668, hm⟩ := cll_e hm
  refine zx_callV (σ := σ) C [.int (xs (((x4) + (1)).toNatClampNeg)), .int (xs (((x4) + (2)).toNatClampNeg))] tC_10 k664 i665 Y_X10_choose W_3_42 W_3_43 W_3_44 (c_X10_choose h668) (by decide) (by decide) rfl (Nat.le_of_ble_eq_true rfl) dL_law_1876 rfl ?_
  refine zx_aload_n C dL_law_1879 2 rfl ?_
  refine zx_aload_n C dL_law_1880 0 rfl ?_
  refine zx_iload C dL_law_1881 4 rfl ?_
  refine zx_iconst (v := 1) C dL_law_1883 (by decide) ?_
  refine zx_iadd C dL_law_1884 ?_
  obtain ⟨h669, hm⟩ := ckI_e hm
  refine zx_sld C hX hbb h669 dL_law_1885 ?_
  refine zx_aload_n C dL_law_1886 0 rfl ?_
  refine zx_iload C dL_law_1887 4 rfl ?_
  refine zx_iconst (v := 2) C dL_law_1889 (by decide) ?_
  refine zx_iadd C dL_law_1890 ?_
  obtain ⟨h670, hm⟩ := ckI_e hm
  refine zx_sld C hX hbb h670 dL_law_1891 ?_
  obtain ⟨k671, i672, hm⟩ := ckO_e hm
  obtain ⟨v673, ρ674, h675, hm⟩ := cll_e hm
  refine zx_callV (σ := ρ667) C [.int (xs (((x4) + (1)).toNatClampNeg)), .int (xs (((x4) + (2)).toNatClampNeg))] tC_11 k671 i672 Y_X12_choose W_9_80 W_9_81 W_9_82 (c_X12_choose h675) (by decide) (by decide) rfl (Nat.le_of_ble_eq_true rfl) dL_law_1892 rfl ?_
  refine zx_icmp_eq C 2051 dL_law_1895 (by decide) (fun c676 => ?_) (fun c676 => ?_)
  · replace hm := ip_e hm c676
    exact zx_lv [0, 1, 2, 3, 4] [(0, .ref (b)), (1, .ref (x1)), (2, .ref (x2)), (3, .ref (x3)), (4, .int (x4))] rfl (j_L_law_2051 C htab hin hX hbb hrc23   hm)
  · replace hm := in_e hm c676
    refine zx_iconst (v := 0) C dL_law_1898 (by decide) ?_
    obtain ⟨rfl, rfl⟩ := ret_e hm
    exact zx_zret C rfl (by decide) rfl rfl dL_law_1899
set_option maxRecDepth 100000 in
set_option maxHeartbeats 1000000 in
theorem j_L_law_1900 {p : Program} {l : Launch} {e : Env} {s : State} {m : MethodId} {args : Array Value} {below : List Frame} {meth : Method} {c : Code} {D : va_G} {aC : Nat → ClassId} {b0 fu : Nat} {σ0 τ : tM} {v : Int32} {b L : Nat} {xs : Nat → Int32} {rc23 : Nat → Nat → Nat → Int32 → tM → Option ((Int32) × tM)} (C : tCx p l s m args meth c yL_law.cls cL_law 8 (some .boolean) D aC b0 σ0) (htab : True) (hin : True) (hX : va_X b L xs s s.heap) (hbb : b < b0) (hrc23 : ∀ (x1 : Nat) (x2 : Nat) (x3 : Nat) (x4 : Int32) (ρ : tM), rc23 x1 x2 x3 x4 ρ = some (v, τ) → tX p l e s m args below meth c 8 14 271 D aC b0 σ0 (.inl (some (.int v))) τ 23 [(0, .ref (b)), (1, .ref (x1)), (2, .ref (x2)), (3, .ref (x3)), (4, .int (x4))] [] ρ) {x1 : Nat} {x2 : Nat} {x3 : Nat} {x4 : Int32} {σ : tM} (hm : J_L_law_1900 b0 fu L xs rc23 x1 x2 x3 x4 σ = some (v, τ)) : tX p l e s m args below meth c 8 14 271 D aC b0 σ0 (.inl (some (.int v))) τ 1900 [(0, .ref (b)), (1, .ref (x1)), (2, .ref (x2)), (3, .ref (x3)), (4, .int (x4))] [] σ := by
  unfold J_L_law_1900 at hm
  refine zx_aload_n C dL_law_1900 1 rfl ?_
  refine zx_aload_n C dL_law_1901 0 rfl ?_
  refine zx_iload C dL_law_1902 4 rfl ?_
  refine zx_iconst (v := 1) C dL_law_1904 (by decide) ?_
  refine zx_iadd C dL_law_1905 ?_
  obtain ⟨h677, hm⟩ := ckI_e hm
  refine zx_sld C hX hbb h677 dL_law_1906 ?_
  refine zx_i2l C dL_law_1907 ?_
  refine zx_bipush (v := 32) C dL_law_1908 (by decide) ?_
  refine zx_lshl C dL_law_1910 ?_
  refine zx_aload_n C dL_law_1911 0 rfl ?_
  refine zx_iload C dL_law_1912 4 rfl ?_
  refine zx_iconst (v := 2) C dL_law_1914 (by decide) ?_
  refine zx_iadd C dL_law_1915 ?_
  obtain ⟨h678, hm⟩ := ckI_e hm
  refine zx_sld C hX hbb h678 dL_law_1916 ?_
  refine zx_i2l C dL_law_1917 ?_
  refine zx_ldc2 (v := 4294967295) C W_9_130 dL_law_1918 ?_
  refine zx_land C dL_law_1921 ?_
  refine zx_lor C dL_law_1922 ?_
  obtain ⟨k679, i680, hm⟩ := ckO_e hm
  obtain ⟨v681, ρ682, h683, hm⟩ := cll_e hm
  refine zx_callV (σ := σ) C [.long ((((xs (((x4) + (1)).toNatClampNeg)).toInt64) <<< (((32 : Int32)).toInt64 &&& 63)) ||| (((xs (((x4) + (2)).toNatClampNeg)).toInt64) &&& (4294967295)))] tC_10 k679 i680 Y_X10_shuffle W_3_54 W_3_55 W_3_56 (c_X10_shuffle h683) (by decide) (by decide) rfl (Nat.le_of_ble_eq_true rfl) dL_law_1923 rfl ?_
  refine zx_aload_n C dL_law_1926 2 rfl ?_
  refine zx_aload_n C dL_law_1927 0 rfl ?_
  refine zx_iload C dL_law_1928 4 rfl ?_
  refine zx_iconst (v := 1) C dL_law_1930 (by decide) ?_
  refine zx_iadd C dL_law_1931 ?_
  obtain ⟨h684, hm⟩ := ckI_e hm
  refine zx_sld C hX hbb h684 dL_law_1932 ?_
  refine zx_i2l C dL_law_1933 ?_
  refine zx_bipush (v := 32) C dL_law_1934 (by decide) ?_
  refine zx_lshl C dL_law_1936 ?_
  refine zx_aload_n C dL_law_1937 0 rfl ?_
  refine zx_iload C dL_law_1938 4 rfl ?_
  refine zx_iconst (v := 2) C dL_law_1940 (by decide) ?_
  refine zx_iadd C dL_law_1941 ?_
  obtain ⟨h685, hm⟩ := ckI_e hm
  refine zx_sld C hX hbb h685 dL_law_1942 ?_
  refine zx_i2l C dL_law_1943 ?_
  refine zx_ldc2 (v := 4294967295) C W_9_130 dL_law_1944 ?_
  refine zx_land C dL_law_1947 ?_
  refine zx_lor C dL_law_1948 ?_
  obtain ⟨k686, i687, hm⟩ := ckO_e hm
  obtain ⟨v688, ρ689, h690, hm⟩ := cll_e hm
  refine zx_callV (σ := ρ682) C [.long ((((xs (((x4) + (1)).toNatClampNeg)).toInt64) <<< (((32 : Int32)).toInt64 &&& 63)) ||| (((xs (((x4) + (2)).toNatClampNeg)).toInt64) &&& (4294967295)))] tC_11 k686 i687 Y_X12_shuffle W_9_85 W_9_86 W_9_87 (c_X12_shuffle h690) (by decide) (by decide) rfl (Nat.le_of_ble_eq_true rfl) dL_law_1949 rfl ?_
  refine zx_icmp_eq C 2051 dL_law_1952 (by decide) (fun c691 => ?_) (fun c691 => ?_)
  · replace hm := ip_e hm c691
    exact zx_lv [0, 1, 2, 3, 4] [(0, .ref (b)), (1, .ref (x1)), (2, .ref (x2)), (3, .ref (x3)), (4, .int (x4))] rfl (j_L_law_2051 C htab hin hX hbb hrc23   hm)
  · replace hm := in_e hm c691
    refine zx_iconst (v := 0) C dL_law_1955 (by decide) ?_
    obtain ⟨rfl, rfl⟩ := ret_e hm
    exact zx_zret C rfl (by decide) rfl rfl dL_law_1956
set_option maxRecDepth 100000 in
set_option maxHeartbeats 1000000 in
theorem j_L_law_1998 {p : Program} {l : Launch} {e : Env} {s : State} {m : MethodId} {args : Array Value} {below : List Frame} {meth : Method} {c : Code} {D : va_G} {aC : Nat → ClassId} {b0 fu : Nat} {σ0 τ : tM} {v : Int32} {b L : Nat} {xs : Nat → Int32} {rc23 : Nat → Nat → Nat → Int32 → tM → Option ((Int32) × tM)} (C : tCx p l s m args meth c yL_law.cls cL_law 8 (some .boolean) D aC b0 σ0) (htab : True) (hin : True) (hX : va_X b L xs s s.heap) (hbb : b < b0) (hrc23 : ∀ (x1 : Nat) (x2 : Nat) (x3 : Nat) (x4 : Int32) (ρ : tM), rc23 x1 x2 x3 x4 ρ = some (v, τ) → tX p l e s m args below meth c 8 14 271 D aC b0 σ0 (.inl (some (.int v))) τ 23 [(0, .ref (b)), (1, .ref (x1)), (2, .ref (x2)), (3, .ref (x3)), (4, .int (x4))] [] ρ) {x1 : Nat} {x2 : Nat} {x3 : Nat} {x4 : Int32} {σ : tM} (hm : J_L_law_1998 b0 fu L xs rc23 x1 x2 x3 x4 σ = some (v, τ)) : tX p l e s m args below meth c 8 14 271 D aC b0 σ0 (.inl (some (.int v))) τ 1998 [(0, .ref (b)), (1, .ref (x1)), (2, .ref (x2)), (3, .ref (x3)), (4, .int (x4))] [] σ := by
  unfold J_L_law_1998 at hm
  refine zx_goto C 2051 dL_law_1998 (by decide) ?_
  exact zx_lv [0, 1, 2, 3, 4] [(0, .ref (b)), (1, .ref (x1)), (2, .ref (x2)), (3, .ref (x3)), (4, .int (x4))] rfl (j_L_law_2051 C htab hin hX hbb hrc23   hm)
set_option maxRecDepth 100000 in
set_option maxHeartbeats 1000000 in
theorem j_L_law_1957 {p : Program} {l : Launch} {e : Env} {s : State} {m : MethodId} {args : Array Value} {below : List Frame} {meth : Method} {c : Code} {D : va_G} {aC : Nat → ClassId} {b0 fu : Nat} {σ0 τ : tM} {v : Int32} {b L : Nat} {xs : Nat → Int32} {rc23 : Nat → Nat → Nat → Int32 → tM → Option ((Int32) × tM)} (C : tCx p l s m args meth c yL_law.cls cL_law 8 (some .boolean) D aC b0 σ0) (htab : True) (hin : True) (hX : va_X b L xs s s.heap) (hbb : b < b0) (hrc23 : ∀ (x1 : Nat) (x2 : Nat) (x3 : Nat) (x4 : Int32) (ρ : tM), rc23 x1 x2 x3 x4 ρ = some (v, τ) → tX p l e s m args below meth c 8 14 271 D aC b0 σ0 (.inl (some (.int v))) τ 23 [(0, .ref (b)), (1, .ref (x1)), (2, .ref (x2)), (3, .ref (x3)), (4, .int (x4))] [] ρ) {x1 : Nat} {x2 : Nat} {x3 : Nat} {x4 : Int32} {σ : tM} (hm : J_L_law_1957 b0 fu L xs rc23 x1 x2 x3 x4 σ = some (v, τ)) : tX p l e s m args below meth c 8 14 271 D aC b0 σ0 (.inl (some (.int v))) τ 1957 [(0, .ref (b)), (1, .ref (x1)), (2, .ref (x2)), (3, .ref (x3)), (4, .int (x4))] [] σ := by
  unfold J_L_law_1957 at hm
  refine zx_aload_n C dL_law_1957 1 rfl ?_
  refine zx_aload_n C dL_law_1958 3 rfl ?_
  obtain ⟨v692, ρ693, h694, hm⟩ := cll_e hm
  refine zx_callSH (σ := σ) C [.ref (x1), .ref (x3)] Y_L_recover W_6_110 W_6_111 (c_L_recover h694) (by decide) (by decide) rfl (Nat.le_of_ble_eq_true rfl) dL_law_1959 rfl ?_
  refine zx_istore C [(5, .int (v692)), (0, .ref (b)), (1, .ref (x1)), (2, .ref (x2)), (3, .ref (x3)), (4, .int (x4))] dL_law_1962 (by decide) rfl ?_
  refine zx_aload_n C dL_law_1964 3 rfl ?_
  obtain ⟨k695, i696, hm⟩ := ckO_e hm
  obtain ⟨v697, ρ698, h699, hm⟩ := cll_e hm
  refine zx_callVH (σ := ρ693) C [] tC_11 k695 i696 Y_X12_recover W_9_90 W_9_91 W_9_92 (c_X12_recover h699) (by decide) (by decide) rfl (Nat.le_of_ble_eq_true rfl) dL_law_1965 rfl ?_
  refine zx_istore C [(6, .int (v697)), (5, .int (v692)), (0, .ref (b)), (1, .ref (x1)), (2, .ref (x2)), (3, .ref (x3)), (4, .int (x4))] dL_law_1968 (by decide) rfl ?_
  refine zx_aload_n C dL_law_1970 4 rfl ?_
  obtain ⟨k700, i701, hm⟩ := ckO_e hm
  obtain ⟨v702, ρ703, h704, hm⟩ := cll_e hm
  refine zx_callV (σ := ρ698) C [] tC_11 k700 i701 Y_X12_thrown W_6_190 W_6_191 W_6_192 (c_X12_thrown h704) (by decide) (by decide) rfl (Nat.le_of_ble_eq_true rfl) dL_law_1971 rfl ?_
  refine zx_iload C dL_law_1974 1 rfl ?_
  refine zx_icmp_eq C 1981 dL_law_1976 (by decide) (fun c705 => ?_) (fun c705 => ?_)
  · replace hm := ip_e hm c705
    refine zx_iload C dL_law_1981 1 rfl ?_
    refine zx_if_ne C 1998 dL_law_1983 (by decide) (fun c706 => ?_) (fun c706 => ?_)
    · replace hm := in_e hm c706
      exact zx_lv [2, 3, 4, 5, 6] [(0, .ref (b)), (1, .ref (x1)), (2, .ref (x2)), (3, .ref (x3)), (4, .int (x4))] rfl (j_L_law_1998 C htab hin hX hbb hrc23   hm)
    · replace hm := ip_e hm c706
      refine zx_aload_n C dL_law_1986 5 rfl ?_
      refine zx_iconst (v := 0) C dL_law_1987 (by decide) ?_
      obtain ⟨n709, k707, i708, hm⟩ := ckR_e hm
      obtain ⟨h710, hm⟩ := ckI_e hm
      refine zx_lald C k707 i708 h710 dL_law_1988 ?_
      refine zx_iload C dL_law_1989 0 rfl ?_
      refine zx_i2l C dL_law_1991 ?_
      refine zx_lcmp C dL_law_1992 ?_
      refine zx_if_eq C 1998 dL_law_1993 (by decide) (fun c711 => ?_) (fun c711 => ?_)
      · replace hm := ip_e hm c711
        exact zx_lv [2, 3, 4, 5, 6] [(0, .ref (b)), (1, .ref (x1)), (2, .ref (x2)), (3, .ref (x3)), (4, .int (x4))] rfl (j_L_law_1998 C htab hin hX hbb hrc23   hm)
      · replace hm := in_e hm c711
        refine zx_iconst (v := 0) C dL_law_1996 (by decide) ?_
        obtain ⟨rfl, rfl⟩ := ret_e hm
        exact zx_zret C rfl (by decide) rfl rfl dL_law_1997
  · replace hm := in_e hm c705
    refine zx_iconst (v := 0) C dL_law_1979 (by decide) ?_
    obtain ⟨rfl, rfl⟩ := ret_e hm
    exact zx_zret C rfl (by decide) rfl rfl dL_law_1980
set_option maxRecDepth 100000 in
set_option maxHeartbeats 1000000 in
theorem j_L_law_2001 {p : Program} {l : Launch} {e : Env} {s : State} {m : MethodId} {args : Array Value} {below : List Frame} {meth : Method} {c : Code} {D : va_G} {aC : Nat → ClassId} {b0 fu : Nat} {σ0 τ : tM} {v : Int32} {b L : Nat} {xs : Nat → Int32} {rc23 : Nat → Nat → Nat → Int32 → tM → Option ((Int32) × tM)} (C : tCx p l s m args meth c yL_law.cls cL_law 8 (some .boolean) D aC b0 σ0) (htab : True) (hin : True) (hX : va_X b L xs s s.heap) (hbb : b < b0) (hrc23 : ∀ (x1 : Nat) (x2 : Nat) (x3 : Nat) (x4 : Int32) (ρ : tM), rc23 x1 x2 x3 x4 ρ = some (v, τ) → tX p l e s m args below meth c 8 14 271 D aC b0 σ0 (.inl (some (.int v))) τ 23 [(0, .ref (b)), (1, .ref (x1)), (2, .ref (x2)), (3, .ref (x3)), (4, .int (x4))] [] ρ) {x1 : Nat} {x2 : Nat} {x3 : Nat} {x4 : Int32} {σ : tM} (hm : J_L_law_2001 b0 fu L xs rc23 x1 x2 x3 x4 σ = some (v, τ)) : tX p l e s m args below meth c 8 14 271 D aC b0 σ0 (.inl (some (.int v))) τ 2001 [(0, .ref (b)), (1, .ref (x1)), (2, .ref (x2)), (3, .ref (x3)), (4, .int (x4))] [] σ := by
  unfold J_L_law_2001 at hm
  refine zx_aload_n C dL_law_2001 1 rfl ?_
  refine zx_aload_n C dL_law_2002 0 rfl ?_
  refine zx_iload C dL_law_2003 4 rfl ?_
  refine zx_iconst (v := 1) C dL_law_2005 (by decide) ?_
  refine zx_iadd C dL_law_2006 ?_
  obtain ⟨h712, hm⟩ := ckI_e hm
  refine zx_sld C hX hbb h712 dL_law_2007 ?_
  obtain ⟨k713, i714, hm⟩ := ckO_e hm
  obtain ⟨v715, ρ716, h717, hm⟩ := cll_e hm
  refine zx_callV (σ := σ) C [.int (xs (((x4) + (1)).toNatClampNeg))] tC_10 k713 i714 Y_X10_versions W_3_63 W_3_64 W_3_65 (c_X10_versions h717) (by decide) (by decide) rfl (Nat.le_of_ble_eq_true rfl) dL_law_2008 rfl ?_
  refine zx_aload_n C dL_law_2011 2 rfl ?_
  refine zx_aload_n C dL_law_2012 0 rfl ?_
  refine zx_iload C dL_law_2013 4 rfl ?_
  refine zx_iconst (v := 1) C dL_law_2015 (by decide) ?_
  refine zx_iadd C dL_law_2016 ?_
  obtain ⟨h718, hm⟩ := ckI_e hm
  refine zx_sld C hX hbb h718 dL_law_2017 ?_
  obtain ⟨k719, i720, hm⟩ := ckO_e hm
  obtain ⟨v721, ρ722, h723, hm⟩ := cll_e hm
  refine zx_callV (σ := ρ716) C [.int (xs (((x4) + (1)).toNatClampNeg))] tC_11 k719 i720 Y_X12_versions W_9_76 W_9_77 W_9_78 (c_X12_versions h723) (by decide) (by decide) rfl (Nat.le_of_ble_eq_true rfl) dL_law_2018 rfl ?_
  refine zx_icmp_eq C 2051 dL_law_2021 (by decide) (fun c724 => ?_) (fun c724 => ?_)
  · replace hm := ip_e hm c724
    exact zx_lv [0, 1, 2, 3, 4] [(0, .ref (b)), (1, .ref (x1)), (2, .ref (x2)), (3, .ref (x3)), (4, .int (x4))] rfl (j_L_law_2051 C htab hin hX hbb hrc23   hm)
  · replace hm := in_e hm c724
    refine zx_iconst (v := 0) C dL_law_2024 (by decide) ?_
    obtain ⟨rfl, rfl⟩ := ret_e hm
    exact zx_zret C rfl (by decide) rfl rfl dL_law_2025
set_option maxRecDepth 100000 in
set_option maxHeartbeats 1000000 in
theorem j_L_law_2026 {p : Program} {l : Launch} {e : Env} {s : State} {m : MethodId} {args : Array Value} {below : List Frame} {meth : Method} {c : Code} {D : va_G} {aC : Nat → ClassId} {b0 fu : Nat} {σ0 τ : tM} {v : Int32} {b L : Nat} {xs : Nat → Int32} {rc23 : Nat → Nat → Nat → Int32 → tM → Option ((Int32) × tM)} (C : tCx p l s m args meth c yL_law.cls cL_law 8 (some .boolean) D aC b0 σ0) (htab : True) (hin : True) (hX : va_X b L xs s s.heap) (hbb : b < b0) (hrc23 : ∀ (x1 : Nat) (x2 : Nat) (x3 : Nat) (x4 : Int32) (ρ : tM), rc23 x1 x2 x3 x4 ρ = some (v, τ) → tX p l e s m args below meth c 8 14 271 D aC b0 σ0 (.inl (some (.int v))) τ 23 [(0, .ref (b)), (1, .ref (x1)), (2, .ref (x2)), (3, .ref (x3)), (4, .int (x4))] [] ρ) {x1 : Nat} {x2 : Nat} {x3 : Nat} {x4 : Int32} {σ : tM} (hm : J_L_law_2026 b0 fu L xs rc23 x1 x2 x3 x4 σ = some (v, τ)) : tX p l e s m args below meth c 8 14 271 D aC b0 σ0 (.inl (some (.int v))) τ 2026 [(0, .ref (b)), (1, .ref (x1)), (2, .ref (x2)), (3, .ref (x3)), (4, .int (x4))] [] σ := by
  unfold J_L_law_2026 at hm
  refine zx_aload_n C dL_law_2026 1 rfl ?_
  refine zx_aload_n C dL_law_2027 0 rfl ?_
  refine zx_iload C dL_law_2028 4 rfl ?_
  refine zx_iconst (v := 1) C dL_law_2030 (by decide) ?_
  refine zx_iadd C dL_law_2031 ?_
  obtain ⟨h725, hm⟩ := ckI_e hm
  refine zx_sld C hX hbb h725 dL_law_2032 ?_
  obtain ⟨k726, i727, hm⟩ := ckO_e hm
  obtain ⟨v728, ρ729, h730, hm⟩ := cll_e hm
  refine zx_callV (σ := σ) C [.int (xs (((x4) + (1)).toNatClampNeg))] tC_10 k726 i727 Y_X10_total W_3_67 W_3_68 W_3_69 (c_X10_total h730) (by decide) (by decide) rfl (Nat.le_of_ble_eq_true rfl) dL_law_2033 rfl ?_
  refine zx_aload_n C dL_law_2036 2 rfl ?_
  refine zx_aload_n C dL_law_2037 0 rfl ?_
  refine zx_iload C dL_law_2038 4 rfl ?_
  refine zx_iconst (v := 1) C dL_law_2040 (by decide) ?_
  refine zx_iadd C dL_law_2041 ?_
  obtain ⟨h731, hm⟩ := ckI_e hm
  refine zx_sld C hX hbb h731 dL_law_2042 ?_
  obtain ⟨k732, i733, hm⟩ := ckO_e hm
  obtain ⟨v734, ρ735, h736, hm⟩ := cll_e hm
  refine zx_callV (σ := ρ729) C [.int (xs (((x4) + (1)).toNatClampNeg))] tC_11 k732 i733 Y_X12_total W_9_114 W_9_115 W_9_116 (c_X12_total h736) (by decide) (by decide) rfl (Nat.le_of_ble_eq_true rfl) dL_law_2043 rfl ?_
  refine zx_icmp_eq C 2051 dL_law_2046 (by decide) (fun c737 => ?_) (fun c737 => ?_)
  · replace hm := ip_e hm c737
    exact zx_lv [0, 1, 2, 3, 4] [(0, .ref (b)), (1, .ref (x1)), (2, .ref (x2)), (3, .ref (x3)), (4, .int (x4))] rfl (j_L_law_2051 C htab hin hX hbb hrc23   hm)
  · replace hm := in_e hm c737
    refine zx_iconst (v := 0) C dL_law_2049 (by decide) ?_
    obtain ⟨rfl, rfl⟩ := ret_e hm
    exact zx_zret C rfl (by decide) rfl rfl dL_law_2050
set_option maxRecDepth 100000 in
set_option maxHeartbeats 1000000 in
theorem l_L_law_23 {p : Program} {l : Launch} {e : Env} {s : State} {m : MethodId} {args : Array Value} {below : List Frame} {meth : Method} {c : Code} {D : va_G} {aC : Nat → ClassId} {b0 fu : Nat} {σ0 τ : tM} {v : Int32} {b L : Nat} {xs : Nat → Int32}  (C : tCx p l s m args meth c yL_law.cls cL_law 8 (some .boolean) D aC b0 σ0) (htab : True) (hin : True) (hX : va_X b L xs s s.heap) (hbb : b < b0)  : ∀ (n : Nat) (x1 : Nat) (x2 : Nat) (x3 : Nat) (x4 : Int32) (σ : tM), L_L_law_23 b0 fu L xs  n x1 x2 x3 x4 σ = some (v, τ) → tX p l e s m args below meth c 8 14 271 D aC b0 σ0 (.inl (some (.int v))) τ 23 [(0, .ref (b)), (1, .ref (x1)), (2, .ref (x2)), (3, .ref (x3)), (4, .int (x4))] [] σ := by
  intro n
  induction n with
  | zero => intro x1 x2 x3 x4 σ hm; unfold L_L_law_23 at hm; cases hm
  | succ n ih =>
    intro x1 x2 x3 x4 σ hm
    unfold L_L_law_23 at hm
    obtain ⟨rc23, hrc⟩ : ∃ z, z = L_L_law_23 b0 fu L xs  n := ⟨_, rfl⟩
    replace hm := ltb_e hm hrc
    rw [← hrc] at ih
    have hrc23 := ih
    clear ih hrc
    refine zx_iload C dL_law_23 4 rfl ?_
    refine zx_aload_n C dL_law_25 0 rfl ?_
    refine zx_slen C hX hbb dL_law_26 ?_
    refine zx_bipush (v := 6) C dL_law_27 (by decide) ?_
    refine zx_isub C dL_law_29 ?_
    refine zx_icmp_gt C 2057 dL_law_30 (by decide) (fun c16 => ?_) (fun c16 => ?_)
    · replace hm := ip_e hm c16
      refine zx_iconst (v := 1) C dL_law_2057 (by decide) ?_
      obtain ⟨rfl, rfl⟩ := ret_e hm
      exact zx_zret C rfl (by decide) rfl rfl dL_law_2058
    · replace hm := in_e hm c16
      refine zx_aload_n C dL_law_33 0 rfl ?_
      refine zx_iload C dL_law_34 4 rfl ?_
      obtain ⟨h17, hm⟩ := ckI_e hm
      refine zx_sld C hX hbb h17 dL_law_36 ?_
      refine zx_bipush (v := 63) C dL_law_37 (by decide) ?_
      refine zx_iand C dL_law_39 ?_
      refine zx_topi (fun y18 hy18 => ?_)
      replace hm := ltb_e hm hy18
      rcases Classical.em ((y18) = (0)) with c40_0 | c40_0
      · replace hm := ip_e hm c40_0
        refine zx_tabIn (off := 156) C 196 dL_law_40 (by rw [c40_0]; decide) (by rw [c40_0]; decide) (by rw [c40_0]; decide) (by decide) ?_
        exact zx_lv [0, 1, 2, 3, 4] [(0, .ref (b)), (1, .ref (x1)), (2, .ref (x2)), (3, .ref (x3)), (4, .int (x4))] rfl (j_L_law_196 C htab hin hX hbb hrc23   hm)
      · replace hm := in_e hm c40_0
        rcases Classical.em ((y18) = (1)) with c40_1 | c40_1
        · replace hm := ip_e hm c40_1
          refine zx_tabIn (off := 193) C 233 dL_law_40 (by rw [c40_1]; decide) (by rw [c40_1]; decide) (by rw [c40_1]; decide) (by decide) ?_
          exact zx_lv [0, 1, 2, 3, 4] [(0, .ref (b)), (1, .ref (x1)), (2, .ref (x2)), (3, .ref (x3)), (4, .int (x4))] rfl (j_L_law_233 C htab hin hX hbb hrc23   hm)
        · replace hm := in_e hm c40_1
          rcases Classical.em ((y18) = (2)) with c40_2 | c40_2
          · replace hm := ip_e hm c40_2
            refine zx_tabIn (off := 266) C 306 dL_law_40 (by rw [c40_2]; decide) (by rw [c40_2]; decide) (by rw [c40_2]; decide) (by decide) ?_
            exact zx_lv [0, 1, 2, 3, 4] [(0, .ref (b)), (1, .ref (x1)), (2, .ref (x2)), (3, .ref (x3)), (4, .int (x4))] rfl (j_L_law_306 C htab hin hX hbb hrc23   hm)
          · replace hm := in_e hm c40_2
            rcases Classical.em ((y18) = (3)) with c40_3 | c40_3
            · replace hm := ip_e hm c40_3
              refine zx_tabIn (off := 303) C 343 dL_law_40 (by rw [c40_3]; decide) (by rw [c40_3]; decide) (by rw [c40_3]; decide) (by decide) ?_
              exact zx_lv [0, 1, 2, 3, 4] [(0, .ref (b)), (1, .ref (x1)), (2, .ref (x2)), (3, .ref (x3)), (4, .int (x4))] rfl (j_L_law_343 C htab hin hX hbb hrc23   hm)
            · replace hm := in_e hm c40_3
              rcases Classical.em ((y18) = (4)) with c40_4 | c40_4
              · replace hm := ip_e hm c40_4
                refine zx_tabIn (off := 347) C 387 dL_law_40 (by rw [c40_4]; decide) (by rw [c40_4]; decide) (by rw [c40_4]; decide) (by decide) ?_
                exact zx_lv [0, 1, 2, 3, 4] [(0, .ref (b)), (1, .ref (x1)), (2, .ref (x2)), (3, .ref (x3)), (4, .int (x4))] rfl (j_L_law_387 C htab hin hX hbb hrc23   hm)
              · replace hm := in_e hm c40_4
                rcases Classical.em ((y18) = (5)) with c40_5 | c40_5
                · replace hm := ip_e hm c40_5
                  refine zx_tabIn (off := 391) C 431 dL_law_40 (by rw [c40_5]; decide) (by rw [c40_5]; decide) (by rw [c40_5]; decide) (by decide) ?_
                  exact zx_lv [0, 1, 2, 3, 4] [(0, .ref (b)), (1, .ref (x1)), (2, .ref (x2)), (3, .ref (x3)), (4, .int (x4))] rfl (j_L_law_431 C htab hin hX hbb hrc23   hm)
                · replace hm := in_e hm c40_5
                  rcases Classical.em ((y18) = (6)) with c40_6 | c40_6
                  · replace hm := ip_e hm c40_6
                    refine zx_tabIn (off := 435) C 475 dL_law_40 (by rw [c40_6]; decide) (by rw [c40_6]; decide) (by rw [c40_6]; decide) (by decide) ?_
                    exact zx_lv [0, 1, 2, 3, 4] [(0, .ref (b)), (1, .ref (x1)), (2, .ref (x2)), (3, .ref (x3)), (4, .int (x4))] rfl (j_L_law_475 C htab hin hX hbb hrc23   hm)
                  · replace hm := in_e hm c40_6
                    rcases Classical.em ((y18) = (7)) with c40_7 | c40_7
                    · replace hm := ip_e hm c40_7
                      refine zx_tabIn (off := 479) C 519 dL_law_40 (by rw [c40_7]; decide) (by rw [c40_7]; decide) (by rw [c40_7]; decide) (by decide) ?_
                      exact zx_lv [0, 1, 2, 3, 4] [(0, .ref (b)), (1, .ref (x1)), (2, .ref (x2)), (3, .ref (x3)), (4, .int (x4))] rfl (j_L_law_519 C htab hin hX hbb hrc23   hm)
                    · replace hm := in_e hm c40_7
                      rcases Classical.em ((y18) = (8)) with c40_8 | c40_8
                      · replace hm := ip_e hm c40_8
                        refine zx_tabIn (off := 523) C 563 dL_law_40 (by rw [c40_8]; decide) (by rw [c40_8]; decide) (by rw [c40_8]; decide) (by decide) ?_
                        exact zx_lv [0, 1, 2, 3, 4] [(0, .ref (b)), (1, .ref (x1)), (2, .ref (x2)), (3, .ref (x3)), (4, .int (x4))] rfl (j_L_law_563 C htab hin hX hbb hrc23   hm)
                      · replace hm := in_e hm c40_8
                        rcases Classical.em ((y18) = (9)) with c40_9 | c40_9
                        · replace hm := ip_e hm c40_9
                          refine zx_tabIn (off := 567) C 607 dL_law_40 (by rw [c40_9]; decide) (by rw [c40_9]; decide) (by rw [c40_9]; decide) (by decide) ?_
                          exact zx_lv [0, 1, 2, 3, 4] [(0, .ref (b)), (1, .ref (x1)), (2, .ref (x2)), (3, .ref (x3)), (4, .int (x4))] rfl (j_L_law_607 C htab hin hX hbb hrc23   hm)
                        · replace hm := in_e hm c40_9
                          rcases Classical.em ((y18) = (10)) with c40_10 | c40_10
                          · replace hm := ip_e hm c40_10
                            refine zx_tabIn (off := 611) C 651 dL_law_40 (by rw [c40_10]; decide) (by rw [c40_10]; decide) (by rw [c40_10]; decide) (by decide) ?_
                            exact zx_lv [0, 1, 2, 3, 4] [(0, .ref (b)), (1, .ref (x1)), (2, .ref (x2)), (3, .ref (x3)), (4, .int (x4))] rfl (j_L_law_651 C htab hin hX hbb hrc23   hm)
                          · replace hm := in_e hm c40_10
                            rcases Classical.em ((y18) = (11)) with c40_11 | c40_11
                            · replace hm := ip_e hm c40_11
                              refine zx_tabIn (off := 655) C 695 dL_law_40 (by rw [c40_11]; decide) (by rw [c40_11]; decide) (by rw [c40_11]; decide) (by decide) ?_
                              exact zx_lv [0, 1, 2, 3, 4] [(0, .ref (b)), (1, .ref (x1)), (2, .ref (x2)), (3, .ref (x3)), (4, .int (x4))] rfl (j_L_law_695 C htab hin hX hbb hrc23   hm)
                            · replace hm := in_e hm c40_11
                              rcases Classical.em ((y18) = (12)) with c40_12 | c40_12
                              · replace hm := ip_e hm c40_12
                                refine zx_tabIn (off := 711) C 751 dL_law_40 (by rw [c40_12]; decide) (by rw [c40_12]; decide) (by rw [c40_12]; decide) (by decide) ?_
                                exact zx_lv [0, 1, 2, 3, 4] [(0, .ref (b)), (1, .ref (x1)), (2, .ref (x2)), (3, .ref (x3)), (4, .int (x4))] rfl (j_L_law_751 C htab hin hX hbb hrc23   hm)
                              · replace hm := in_e hm c40_12
                                rcases Classical.em ((y18) = (13)) with c40_13 | c40_13
                                · replace hm := ip_e hm c40_13
                                  refine zx_tabIn (off := 791) C 831 dL_law_40 (by rw [c40_13]; decide) (by rw [c40_13]; decide) (by rw [c40_13]; decide) (by decide) ?_
                                  exact zx_lv [0, 1, 2, 3, 4] [(0, .ref (b)), (1, .ref (x1)), (2, .ref (x2)), (3, .ref (x3)), (4, .int (x4))] rfl (j_L_law_831 C htab hin hX hbb hrc23   hm)
                                · replace hm := in_e hm c40_13
                                  rcases Classical.em ((y18) = (14)) with c40_14 | c40_14
                                  · replace hm := ip_e hm c40_14
                                    refine zx_tabIn (off := 883) C 923 dL_law_40 (by rw [c40_14]; decide) (by rw [c40_14]; decide) (by rw [c40_14]; decide) (by decide) ?_
                                    exact zx_lv [0, 1, 2, 3, 4] [(0, .ref (b)), (1, .ref (x1)), (2, .ref (x2)), (3, .ref (x3)), (4, .int (x4))] rfl (j_L_law_923 C htab hin hX hbb hrc23   hm)
                                  · replace hm := in_e hm c40_14
                                    rcases Classical.em ((y18) = (15)) with c40_15 | c40_15
                                    · replace hm := ip_e hm c40_15
                                      refine zx_tabIn (off := 951) C 991 dL_law_40 (by rw [c40_15]; decide) (by rw [c40_15]; decide) (by rw [c40_15]; decide) (by decide) ?_
                                      exact zx_lv [0, 1, 2, 3, 4] [(0, .ref (b)), (1, .ref (x1)), (2, .ref (x2)), (3, .ref (x3)), (4, .int (x4))] rfl (j_L_law_991 C htab hin hX hbb hrc23   hm)
                                    · replace hm := in_e hm c40_15
                                      rcases Classical.em ((y18) = (16)) with c40_16 | c40_16
                                      · replace hm := ip_e hm c40_16
                                        refine zx_tabIn (off := 1019) C 1059 dL_law_40 (by rw [c40_16]; decide) (by rw [c40_16]; decide) (by rw [c40_16]; decide) (by decide) ?_
                                        exact zx_lv [0, 1, 2, 3, 4] [(0, .ref (b)), (1, .ref (x1)), (2, .ref (x2)), (3, .ref (x3)), (4, .int (x4))] rfl (j_L_law_1059 C htab hin hX hbb hrc23   hm)
                                      · replace hm := in_e hm c40_16
                                        rcases Classical.em ((y18) = (17)) with c40_17 | c40_17
                                        · replace hm := ip_e hm c40_17
                                          refine zx_tabIn (off := 1098) C 1138 dL_law_40 (by rw [c40_17]; decide) (by rw [c40_17]; decide) (by rw [c40_17]; decide) (by decide) ?_
                                          exact zx_lv [0, 1, 2, 3, 4] [(0, .ref (b)), (1, .ref (x1)), (2, .ref (x2)), (3, .ref (x3)), (4, .int (x4))] rfl (j_L_law_1138 C htab hin hX hbb hrc23   hm)
                                        · replace hm := in_e hm c40_17
                                          rcases Classical.em ((y18) = (18)) with c40_18 | c40_18
                                          · replace hm := ip_e hm c40_18
                                            refine zx_tabIn (off := 1182) C 1222 dL_law_40 (by rw [c40_18]; decide) (by rw [c40_18]; decide) (by rw [c40_18]; decide) (by decide) ?_
                                            exact zx_lv [0, 1, 2, 3, 4] [(0, .ref (b)), (1, .ref (x1)), (2, .ref (x2)), (3, .ref (x3)), (4, .int (x4))] rfl (j_L_law_1222 C htab hin hX hbb hrc23   hm)
                                          · replace hm := in_e hm c40_18
                                            rcases Classical.em ((y18) = (19)) with c40_19 | c40_19
                                            · replace hm := ip_e hm c40_19
                                              refine zx_tabIn (off := 1250) C 1290 dL_law_40 (by rw [c40_19]; decide) (by rw [c40_19]; decide) (by rw [c40_19]; decide) (by decide) ?_
                                              exact zx_lv [0, 1, 2, 3, 4] [(0, .ref (b)), (1, .ref (x1)), (2, .ref (x2)), (3, .ref (x3)), (4, .int (x4))] rfl (j_L_law_1290 C htab hin hX hbb hrc23   hm)
                                            · replace hm := in_e hm c40_19
                                              rcases Classical.em ((y18) = (20)) with c40_20 | c40_20
                                              · replace hm := ip_e hm c40_20
                                                refine zx_tabIn (off := 1318) C 1358 dL_law_40 (by rw [c40_20]; decide) (by rw [c40_20]; decide) (by rw [c40_20]; decide) (by decide) ?_
                                                exact zx_lv [0, 1, 2, 3, 4] [(0, .ref (b)), (1, .ref (x1)), (2, .ref (x2)), (3, .ref (x3)), (4, .int (x4))] rfl (j_L_law_1358 C htab hin hX hbb hrc23   hm)
                                              · replace hm := in_e hm c40_20
                                                rcases Classical.em ((y18) = (21)) with c40_21 | c40_21
                                                · replace hm := ip_e hm c40_21
                                                  refine zx_tabIn (off := 1374) C 1414 dL_law_40 (by rw [c40_21]; decide) (by rw [c40_21]; decide) (by rw [c40_21]; decide) (by decide) ?_
                                                  exact zx_lv [0, 1, 2, 3, 4] [(0, .ref (b)), (1, .ref (x1)), (2, .ref (x2)), (3, .ref (x3)), (4, .int (x4))] rfl (j_L_law_1414 C htab hin hX hbb hrc23   hm)
                                                · replace hm := in_e hm c40_21
                                                  rcases Classical.em ((y18) = (22)) with c40_22 | c40_22
                                                  · replace hm := ip_e hm c40_22
                                                    refine zx_tabIn (off := 1442) C 1482 dL_law_40 (by rw [c40_22]; decide) (by rw [c40_22]; decide) (by rw [c40_22]; decide) (by decide) ?_
                                                    exact zx_lv [0, 1, 2, 3, 4] [(0, .ref (b)), (1, .ref (x1)), (2, .ref (x2)), (3, .ref (x3)), (4, .int (x4))] rfl (j_L_law_1482 C htab hin hX hbb hrc23   hm)
                                                  · replace hm := in_e hm c40_22
                                                    rcases Classical.em ((y18) = (23)) with c40_23 | c40_23
                                                    · replace hm := ip_e hm c40_23
                                                      refine zx_tabIn (off := 1498) C 1538 dL_law_40 (by rw [c40_23]; decide) (by rw [c40_23]; decide) (by rw [c40_23]; decide) (by decide) ?_
                                                      exact zx_lv [0, 1, 2, 3, 4] [(0, .ref (b)), (1, .ref (x1)), (2, .ref (x2)), (3, .ref (x3)), (4, .int (x4))] rfl (j_L_law_1538 C htab hin hX hbb hrc23   hm)
                                                    · replace hm := in_e hm c40_23
                                                      rcases Classical.em ((y18) = (24)) with c40_24 | c40_24
                                                      · replace hm := ip_e hm c40_24
                                                        refine zx_tabIn (off := 1554) C 1594 dL_law_40 (by rw [c40_24]; decide) (by rw [c40_24]; decide) (by rw [c40_24]; decide) (by decide) ?_
                                                        exact zx_lv [0, 1, 2, 3, 4] [(0, .ref (b)), (1, .ref (x1)), (2, .ref (x2)), (3, .ref (x3)), (4, .int (x4))] rfl (j_L_law_1594 C htab hin hX hbb hrc23   hm)
                                                      · replace hm := in_e hm c40_24
                                                        rcases Classical.em ((y18) = (25)) with c40_25 | c40_25
                                                        · replace hm := ip_e hm c40_25
                                                          refine zx_tabIn (off := 1598) C 1638 dL_law_40 (by rw [c40_25]; decide) (by rw [c40_25]; decide) (by rw [c40_25]; decide) (by decide) ?_
                                                          exact zx_lv [0, 1, 2, 3, 4] [(0, .ref (b)), (1, .ref (x1)), (2, .ref (x2)), (3, .ref (x3)), (4, .int (x4))] rfl (j_L_law_1638 C htab hin hX hbb hrc23   hm)
                                                        · replace hm := in_e hm c40_25
                                                          rcases Classical.em ((y18) = (26)) with c40_26 | c40_26
                                                          · replace hm := ip_e hm c40_26
                                                            refine zx_tabIn (off := 1642) C 1682 dL_law_40 (by rw [c40_26]; decide) (by rw [c40_26]; decide) (by rw [c40_26]; decide) (by decide) ?_
                                                            exact zx_lv [0, 1, 2, 3, 4] [(0, .ref (b)), (1, .ref (x1)), (2, .ref (x2)), (3, .ref (x3)), (4, .int (x4))] rfl (j_L_law_1682 C htab hin hX hbb hrc23   hm)
                                                          · replace hm := in_e hm c40_26
                                                            rcases Classical.em ((y18) = (27)) with c40_27 | c40_27
                                                            · replace hm := ip_e hm c40_27
                                                              refine zx_tabIn (off := 1698) C 1738 dL_law_40 (by rw [c40_27]; decide) (by rw [c40_27]; decide) (by rw [c40_27]; decide) (by decide) ?_
                                                              exact zx_lv [0, 1, 2, 3, 4] [(0, .ref (b)), (1, .ref (x1)), (2, .ref (x2)), (3, .ref (x3)), (4, .int (x4))] rfl (j_L_law_1738 C htab hin hX hbb hrc23   hm)
                                                            · replace hm := in_e hm c40_27
                                                              rcases Classical.em ((y18) = (28)) with c40_28 | c40_28
                                                              · replace hm := ip_e hm c40_28
                                                                refine zx_tabIn (off := 1754) C 1794 dL_law_40 (by rw [c40_28]; decide) (by rw [c40_28]; decide) (by rw [c40_28]; decide) (by decide) ?_
                                                                exact zx_lv [0, 1, 2, 3, 4] [(0, .ref (b)), (1, .ref (x1)), (2, .ref (x2)), (3, .ref (x3)), (4, .int (x4))] rfl (j_L_law_1794 C htab hin hX hbb hrc23   hm)
                                                              · replace hm := in_e hm c40_28
                                                                rcases Classical.em ((y18) = (29)) with c40_29 | c40_29
                                                                · replace hm := ip_e hm c40_29
                                                                  refine zx_tabIn (off := 1779) C 1819 dL_law_40 (by rw [c40_29]; decide) (by rw [c40_29]; decide) (by rw [c40_29]; decide) (by decide) ?_
                                                                  exact zx_lv [0, 1, 2, 3, 4] [(0, .ref (b)), (1, .ref (x1)), (2, .ref (x2)), (3, .ref (x3)), (4, .int (x4))] rfl (j_L_law_1819 C htab hin hX hbb hrc23   hm)
                                                                · replace hm := in_e hm c40_29
                                                                  rcases Classical.em ((y18) = (30)) with c40_30 | c40_30
                                                                  · replace hm := ip_e hm c40_30
                                                                    refine zx_tabIn (off := 1823) C 1863 dL_law_40 (by rw [c40_30]; decide) (by rw [c40_30]; decide) (by rw [c40_30]; decide) (by decide) ?_
                                                                    exact zx_lv [0, 1, 2, 3, 4] [(0, .ref (b)), (1, .ref (x1)), (2, .ref (x2)), (3, .ref (x3)), (4, .int (x4))] rfl (j_L_law_1863 C htab hin hX hbb hrc23   hm)
                                                                  · replace hm := in_e hm c40_30
                                                                    rcases Classical.em ((y18) = (31)) with c40_31 | c40_31
                                                                    · replace hm := ip_e hm c40_31
                                                                      refine zx_tabIn (off := 1860) C 1900 dL_law_40 (by rw [c40_31]; decide) (by rw [c40_31]; decide) (by rw [c40_31]; decide) (by decide) ?_
                                                                      exact zx_lv [0, 1, 2, 3, 4] [(0, .ref (b)), (1, .ref (x1)), (2, .ref (x2)), (3, .ref (x3)), (4, .int (x4))] rfl (j_L_law_1900 C htab hin hX hbb hrc23   hm)
                                                                    · replace hm := in_e hm c40_31
                                                                      rcases Classical.em ((y18) = (32)) with c40_32 | c40_32
                                                                      · replace hm := ip_e hm c40_32
                                                                        refine zx_tabIn (off := 1917) C 1957 dL_law_40 (by rw [c40_32]; decide) (by rw [c40_32]; decide) (by rw [c40_32]; decide) (by decide) ?_
                                                                        exact zx_lv [0, 1, 2, 3, 4] [(0, .ref (b)), (1, .ref (x1)), (2, .ref (x2)), (3, .ref (x3)), (4, .int (x4))] rfl (j_L_law_1957 C htab hin hX hbb hrc23   hm)
                                                                      · replace hm := in_e hm c40_32
                                                                        rcases Classical.em ((y18) = (33)) with c40_33 | c40_33
                                                                        · replace hm := ip_e hm c40_33
                                                                          refine zx_tabIn (off := 1961) C 2001 dL_law_40 (by rw [c40_33]; decide) (by rw [c40_33]; decide) (by rw [c40_33]; decide) (by decide) ?_
                                                                          exact zx_lv [0, 1, 2, 3, 4] [(0, .ref (b)), (1, .ref (x1)), (2, .ref (x2)), (3, .ref (x3)), (4, .int (x4))] rfl (j_L_law_2001 C htab hin hX hbb hrc23   hm)
                                                                        · replace hm := in_e hm c40_33
                                                                          rcases Classical.em ((y18) = (34)) with c40_34 | c40_34
                                                                          · replace hm := ip_e hm c40_34
                                                                            refine zx_tabIn (off := 1986) C 2026 dL_law_40 (by rw [c40_34]; decide) (by rw [c40_34]; decide) (by rw [c40_34]; decide) (by decide) ?_
                                                                            exact zx_lv [0, 1, 2, 3, 4] [(0, .ref (b)), (1, .ref (x1)), (2, .ref (x2)), (3, .ref (x3)), (4, .int (x4))] rfl (j_L_law_2026 C htab hin hX hbb hrc23   hm)
                                                                          · replace hm := in_e hm c40_34
                                                                            have g40_0 : (y18).toInt ≠ 0 := fun e9 => c40_0 (Int32.toInt_inj.mp (e9.trans (by decide)))
                                                                            have g40_1 : (y18).toInt ≠ 1 := fun e9 => c40_1 (Int32.toInt_inj.mp (e9.trans (by decide)))
                                                                            have g40_2 : (y18).toInt ≠ 2 := fun e9 => c40_2 (Int32.toInt_inj.mp (e9.trans (by decide)))
                                                                            have g40_3 : (y18).toInt ≠ 3 := fun e9 => c40_3 (Int32.toInt_inj.mp (e9.trans (by decide)))
                                                                            have g40_4 : (y18).toInt ≠ 4 := fun e9 => c40_4 (Int32.toInt_inj.mp (e9.trans (by decide)))
                                                                            have g40_5 : (y18).toInt ≠ 5 := fun e9 => c40_5 (Int32.toInt_inj.mp (e9.trans (by decide)))
                                                                            have g40_6 : (y18).toInt ≠ 6 := fun e9 => c40_6 (Int32.toInt_inj.mp (e9.trans (by decide)))
                                                                            have g40_7 : (y18).toInt ≠ 7 := fun e9 => c40_7 (Int32.toInt_inj.mp (e9.trans (by decide)))
                                                                            have g40_8 : (y18).toInt ≠ 8 := fun e9 => c40_8 (Int32.toInt_inj.mp (e9.trans (by decide)))
                                                                            have g40_9 : (y18).toInt ≠ 9 := fun e9 => c40_9 (Int32.toInt_inj.mp (e9.trans (by decide)))
                                                                            have g40_10 : (y18).toInt ≠ 10 := fun e9 => c40_10 (Int32.toInt_inj.mp (e9.trans (by decide)))
                                                                            have g40_11 : (y18).toInt ≠ 11 := fun e9 => c40_11 (Int32.toInt_inj.mp (e9.trans (by decide)))
                                                                            have g40_12 : (y18).toInt ≠ 12 := fun e9 => c40_12 (Int32.toInt_inj.mp (e9.trans (by decide)))
                                                                            have g40_13 : (y18).toInt ≠ 13 := fun e9 => c40_13 (Int32.toInt_inj.mp (e9.trans (by decide)))
                                                                            have g40_14 : (y18).toInt ≠ 14 := fun e9 => c40_14 (Int32.toInt_inj.mp (e9.trans (by decide)))
                                                                            have g40_15 : (y18).toInt ≠ 15 := fun e9 => c40_15 (Int32.toInt_inj.mp (e9.trans (by decide)))
                                                                            have g40_16 : (y18).toInt ≠ 16 := fun e9 => c40_16 (Int32.toInt_inj.mp (e9.trans (by decide)))
                                                                            have g40_17 : (y18).toInt ≠ 17 := fun e9 => c40_17 (Int32.toInt_inj.mp (e9.trans (by decide)))
                                                                            have g40_18 : (y18).toInt ≠ 18 := fun e9 => c40_18 (Int32.toInt_inj.mp (e9.trans (by decide)))
                                                                            have g40_19 : (y18).toInt ≠ 19 := fun e9 => c40_19 (Int32.toInt_inj.mp (e9.trans (by decide)))
                                                                            have g40_20 : (y18).toInt ≠ 20 := fun e9 => c40_20 (Int32.toInt_inj.mp (e9.trans (by decide)))
                                                                            have g40_21 : (y18).toInt ≠ 21 := fun e9 => c40_21 (Int32.toInt_inj.mp (e9.trans (by decide)))
                                                                            have g40_22 : (y18).toInt ≠ 22 := fun e9 => c40_22 (Int32.toInt_inj.mp (e9.trans (by decide)))
                                                                            have g40_23 : (y18).toInt ≠ 23 := fun e9 => c40_23 (Int32.toInt_inj.mp (e9.trans (by decide)))
                                                                            have g40_24 : (y18).toInt ≠ 24 := fun e9 => c40_24 (Int32.toInt_inj.mp (e9.trans (by decide)))
                                                                            have g40_25 : (y18).toInt ≠ 25 := fun e9 => c40_25 (Int32.toInt_inj.mp (e9.trans (by decide)))
                                                                            have g40_26 : (y18).toInt ≠ 26 := fun e9 => c40_26 (Int32.toInt_inj.mp (e9.trans (by decide)))
                                                                            have g40_27 : (y18).toInt ≠ 27 := fun e9 => c40_27 (Int32.toInt_inj.mp (e9.trans (by decide)))
                                                                            have g40_28 : (y18).toInt ≠ 28 := fun e9 => c40_28 (Int32.toInt_inj.mp (e9.trans (by decide)))
                                                                            have g40_29 : (y18).toInt ≠ 29 := fun e9 => c40_29 (Int32.toInt_inj.mp (e9.trans (by decide)))
                                                                            have g40_30 : (y18).toInt ≠ 30 := fun e9 => c40_30 (Int32.toInt_inj.mp (e9.trans (by decide)))
                                                                            have g40_31 : (y18).toInt ≠ 31 := fun e9 => c40_31 (Int32.toInt_inj.mp (e9.trans (by decide)))
                                                                            have g40_32 : (y18).toInt ≠ 32 := fun e9 => c40_32 (Int32.toInt_inj.mp (e9.trans (by decide)))
                                                                            have g40_33 : (y18).toInt ≠ 33 := fun e9 => c40_33 (Int32.toInt_inj.mp (e9.trans (by decide)))
                                                                            have g40_34 : (y18).toInt ≠ 34 := fun e9 => c40_34 (Int32.toInt_inj.mp (e9.trans (by decide)))
                                                                            refine zx_tabOut C 2051 dL_law_40 (by omega) (by decide) ?_
                                                                            exact zx_lv [0, 1, 2, 3, 4] [(0, .ref (b)), (1, .ref (x1)), (2, .ref (x2)), (3, .ref (x3)), (4, .int (x4))] rfl (j_L_law_2051 C htab hin hX hbb hrc23   hm)
set_option maxRecDepth 100000 in
set_option maxHeartbeats 4000000 in
theorem c_L_law {p : Program} {l : Launch} {e : Env} {s : State} {m : MethodId} {args : Array Value} {below : List Frame} {meth : Method} {c : Code} {D : va_G} {aC : Nat → ClassId} {b0 fu b L : Nat} {xs : Nat → Int32} {σ τ : tM} {v : Int32} (C : tCx p l s m args meth c yL_law.cls cL_law 8 (some .boolean) D aC b0 σ) (htab : True) (hin : True) (hX : va_X b L xs s s.heap) (hbb : b < b0) (hm : m_L_law b0 fu L xs σ = some (v, τ)) : tX p l e s m args below meth c 8 14 271 D aC b0 σ (.inl (some (.int v))) τ 0 [(0, .ref b)] [] σ := by
  unfold m_L_law at hm
  obtain ⟨hg, hm⟩ := grw_e hm
  refine zx_lv [0] [(0, .ref (b))] rfl ?_
  refine zx_new C tC_10 W_1_20 W_1_21 W_1_1 dL_law_0 ?_
  refine zx_mem (fun ρ1 hρ1 => ?_)
  replace hm := ltb_e hm hρ1
  have k2 : tk ρ1 (b0 + tn σ) = .inl 10 := by rw [hρ1]; exact sN_k _ _ _ _
  have i3 : tIn b0 ρ1 (b0 + tn σ) := by rw [hρ1]; exact sN_i _ _ _ _
  refine zx_dup C dL_law_3 rfl ?_
  obtain ⟨v4, ρ5, h6, hm⟩ := cll_e hm
  refine zx_callI (σ := ρ1) C [] Y_X10_init W_1_22 W_1_23 rfl (c_X10_init h6) (by decide) (by decide) rfl (Nat.le_of_ble_eq_true rfl) dL_law_4 rfl ?_
  refine zx_astore_n C [(1, .ref (b0 + tn σ)), (0, .ref (b))] dL_law_7 rfl (by decide) rfl ?_
  refine zx_new C tC_11 W_6_194 W_6_195 W_1_14 dL_law_8 ?_
  refine zx_mem (fun ρ7 hρ7 => ?_)
  replace hm := ltb_e hm hρ7
  have k8 : tk ρ7 (b0 + tn ρ5) = .inl 11 := by rw [hρ7]; exact sN_k _ _ _ _
  have i9 : tIn b0 ρ7 (b0 + tn ρ5) := by rw [hρ7]; exact sN_i _ _ _ _
  refine zx_dup C dL_law_11 rfl ?_
  obtain ⟨v10, ρ11, h12, hm⟩ := cll_e hm
  refine zx_callI (σ := ρ7) C [] Y_X12_init W_6_196 W_6_197 rfl (c_X12_init h12) (by decide) (by decide) rfl (Nat.le_of_ble_eq_true rfl) dL_law_12 rfl ?_
  refine zx_astore_n C [(2, .ref (b0 + tn ρ5)), (1, .ref (b0 + tn σ)), (0, .ref (b))] dL_law_15 rfl (by decide) rfl ?_
  refine zx_iconst (v := 1) C dL_law_16 (by decide) ?_
  refine zx_newJ C W_1_155 (by decide) (by decide) dL_law_17 ?_
  refine zx_mem (fun ρ13 hρ13 => ?_)
  replace hm := ltb_e hm hρ13
  have k14 : tk ρ13 (b0 + tn ρ11) = .inr (3, ((1 : Int32)).toNatClampNeg) := by rw [hρ13]; exact sN_k _ _ _ _
  have i15 : tIn b0 ρ13 (b0 + tn ρ11) := by rw [hρ13]; exact sN_i _ _ _ _
  refine zx_astore_n C [(3, .ref (b0 + tn ρ11)), (2, .ref (b0 + tn ρ5)), (1, .ref (b0 + tn σ)), (0, .ref (b))] dL_law_19 rfl (by decide) rfl ?_
  refine zx_iconst (v := 0) C dL_law_20 (by decide) ?_
  refine zx_istore C [(4, .int (0)), (3, .ref (b0 + tn ρ11)), (2, .ref (b0 + tn ρ5)), (1, .ref (b0 + tn σ)), (0, .ref (b))] dL_law_21 (by decide) rfl ?_
  exact zx_lv [4, 3, 2, 1, 0] [(0, .ref (b)), (1, .ref (b0 + tn σ)), (2, .ref (b0 + tn ρ5)), (3, .ref (b0 + tn ρ11)), (4, .int (0))] rfl (l_L_law_23 C htab hin hX hbb  _ _ _ _ _ _ hm)
