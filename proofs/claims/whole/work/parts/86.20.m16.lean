abbrev cX10_init : ByteArray := prog_1_method_1_code
def yX10_init : MethodName := ⟨"SyncTree", "<init>", "()V"⟩
theorem Y_X10_init : tY yX10_init cX10_init 1 none 0 := ⟨W_1_24, W_1_1, ⟨by decide +kernel, by decide +kernel⟩, by decide +kernel⟩
theorem dX10_init_0 : decode cX10_init 0 = .ok (.aload_n 0, 1) := by decide +kernel
theorem dX10_init_1 : decode cX10_init 1 = .ok (.invokespecial 3, 3) := by decide +kernel
theorem dX10_init_4 : decode cX10_init 4 = .ok (.aload_n 0, 1) := by decide +kernel
theorem dX10_init_5 : decode cX10_init 5 = .ok (.new 9, 3) := by decide +kernel
theorem dX10_init_8 : decode cX10_init 8 = .ok (.dup, 1) := by decide +kernel
theorem dX10_init_9 : decode cX10_init 9 = .ok (.invokespecial 11, 3) := by decide +kernel
theorem dX10_init_12 : decode cX10_init 12 = .ok (.putfield 12, 3) := by decide +kernel
theorem dX10_init_15 : decode cX10_init 15 = .ok (.aload_n 0, 1) := by decide +kernel
theorem dX10_init_16 : decode cX10_init 16 = .ok (.new 16, 3) := by decide +kernel
theorem dX10_init_19 : decode cX10_init 19 = .ok (.dup, 1) := by decide +kernel
theorem dX10_init_20 : decode cX10_init 20 = .ok (.invokespecial 18, 3) := by decide +kernel
theorem dX10_init_23 : decode cX10_init 23 = .ok (.putfield 19, 3) := by decide +kernel
theorem dX10_init_26 : decode cX10_init 26 = .ok (.aload_n 0, 1) := by decide +kernel
theorem dX10_init_27 : decode cX10_init 27 = .ok (.new 23, 3) := by decide +kernel
theorem dX10_init_30 : decode cX10_init 30 = .ok (.dup, 1) := by decide +kernel
theorem dX10_init_31 : decode cX10_init 31 = .ok (.aload_n 0, 1) := by decide +kernel
theorem dX10_init_32 : decode cX10_init 32 = .ok (.getfield 19, 3) := by decide +kernel
theorem dX10_init_35 : decode cX10_init 35 = .ok (.invokespecial 25, 3) := by decide +kernel
theorem dX10_init_38 : decode cX10_init 38 = .ok (.putfield 28, 3) := by decide +kernel
theorem dX10_init_41 : decode cX10_init 41 = .ok (.aload_n 0, 1) := by decide +kernel
theorem dX10_init_42 : decode cX10_init 42 = .ok (.new 32, 3) := by decide +kernel
theorem dX10_init_45 : decode cX10_init 45 = .ok (.dup, 1) := by decide +kernel
theorem dX10_init_46 : decode cX10_init 46 = .ok (.aload_n 0, 1) := by decide +kernel
theorem dX10_init_47 : decode cX10_init 47 = .ok (.getfield 12, 3) := by decide +kernel
theorem dX10_init_50 : decode cX10_init 50 = .ok (.aload_n 0, 1) := by decide +kernel
theorem dX10_init_51 : decode cX10_init 51 = .ok (.getfield 19, 3) := by decide +kernel
theorem dX10_init_54 : decode cX10_init 54 = .ok (.aload_n 0, 1) := by decide +kernel
theorem dX10_init_55 : decode cX10_init 55 = .ok (.getfield 28, 3) := by decide +kernel
theorem dX10_init_58 : decode cX10_init 58 = .ok (.invokespecial 34, 3) := by decide +kernel
theorem dX10_init_61 : decode cX10_init 61 = .ok (.putfield 37, 3) := by decide +kernel
theorem dX10_init_64 : decode cX10_init 64 = .ok (.aload_n 0, 1) := by decide +kernel
theorem dX10_init_65 : decode cX10_init 65 = .ok (.new 41, 3) := by decide +kernel
theorem dX10_init_68 : decode cX10_init 68 = .ok (.dup, 1) := by decide +kernel
theorem dX10_init_69 : decode cX10_init 69 = .ok (.aload_n 0, 1) := by decide +kernel
theorem dX10_init_70 : decode cX10_init 70 = .ok (.getfield 12, 3) := by decide +kernel
theorem dX10_init_73 : decode cX10_init 73 = .ok (.aload_n 0, 1) := by decide +kernel
theorem dX10_init_74 : decode cX10_init 74 = .ok (.getfield 19, 3) := by decide +kernel
theorem dX10_init_77 : decode cX10_init 77 = .ok (.aload_n 0, 1) := by decide +kernel
theorem dX10_init_78 : decode cX10_init 78 = .ok (.getfield 28, 3) := by decide +kernel
theorem dX10_init_81 : decode cX10_init 81 = .ok (.aload_n 0, 1) := by decide +kernel
theorem dX10_init_82 : decode cX10_init 82 = .ok (.getfield 37, 3) := by decide +kernel
theorem dX10_init_85 : decode cX10_init 85 = .ok (.invokespecial 43, 3) := by decide +kernel
theorem dX10_init_88 : decode cX10_init 88 = .ok (.putfield 46, 3) := by decide +kernel
theorem dX10_init_91 : decode cX10_init 91 = .ok (.aload_n 0, 1) := by decide +kernel
theorem dX10_init_92 : decode cX10_init 92 = .ok (.new 50, 3) := by decide +kernel
theorem dX10_init_95 : decode cX10_init 95 = .ok (.dup, 1) := by decide +kernel
theorem dX10_init_96 : decode cX10_init 96 = .ok (.aload_n 0, 1) := by decide +kernel
theorem dX10_init_97 : decode cX10_init 97 = .ok (.getfield 28, 3) := by decide +kernel
theorem dX10_init_100 : decode cX10_init 100 = .ok (.invokespecial 52, 3) := by decide +kernel
theorem dX10_init_103 : decode cX10_init 103 = .ok (.putfield 55, 3) := by decide +kernel
theorem dX10_init_106 : decode cX10_init 106 = .ok (.aload_n 0, 1) := by decide +kernel
theorem dX10_init_107 : decode cX10_init 107 = .ok (.new 59, 3) := by decide +kernel
theorem dX10_init_110 : decode cX10_init 110 = .ok (.dup, 1) := by decide +kernel
theorem dX10_init_111 : decode cX10_init 111 = .ok (.invokespecial 61, 3) := by decide +kernel
theorem dX10_init_114 : decode cX10_init 114 = .ok (.putfield 62, 3) := by decide +kernel
theorem dX10_init_117 : decode cX10_init 117 = .ok (.aload_n 0, 1) := by decide +kernel
theorem dX10_init_118 : decode cX10_init 118 = .ok (.new 66, 3) := by decide +kernel
theorem dX10_init_121 : decode cX10_init 121 = .ok (.dup, 1) := by decide +kernel
theorem dX10_init_122 : decode cX10_init 122 = .ok (.invokespecial 68, 3) := by decide +kernel
theorem dX10_init_125 : decode cX10_init 125 = .ok (.putfield 69, 3) := by decide +kernel
theorem dX10_init_128 : decode cX10_init 128 = .ok (.aload_n 0, 1) := by decide +kernel
theorem dX10_init_129 : decode cX10_init 129 = .ok (.new 66, 3) := by decide +kernel
theorem dX10_init_132 : decode cX10_init 132 = .ok (.dup, 1) := by decide +kernel
theorem dX10_init_133 : decode cX10_init 133 = .ok (.invokespecial 68, 3) := by decide +kernel
theorem dX10_init_136 : decode cX10_init 136 = .ok (.putfield 73, 3) := by decide +kernel
theorem dX10_init_139 : decode cX10_init 139 = .ok (.aload_n 0, 1) := by decide +kernel
theorem dX10_init_140 : decode cX10_init 140 = .ok (.bipush 16, 2) := by decide +kernel
theorem dX10_init_142 : decode cX10_init 142 = .ok (.newarray .int, 2) := by decide +kernel
theorem dX10_init_144 : decode cX10_init 144 = .ok (.putfield 76, 3) := by decide +kernel
theorem dX10_init_147 : decode cX10_init 147 = .ok (.aload_n 0, 1) := by decide +kernel
theorem dX10_init_148 : decode cX10_init 148 = .ok (.bipush 40, 2) := by decide +kernel
theorem dX10_init_150 : decode cX10_init 150 = .ok (.bipush 16, 2) := by decide +kernel
theorem dX10_init_152 : decode cX10_init 152 = .ok (.invokevirtual 80, 3) := by decide +kernel
theorem dX10_init_155 : decode cX10_init 155 = .ok (.return_, 1) := by decide +kernel
set_option maxRecDepth 100000 in
set_option maxHeartbeats 1000000 in
theorem c_X10_init {l : Launch} {D : va_G} {aC : Nat → ClassId} {b0 fu : Nat} {a0 : Nat} {σ τ : tM} {v : Unit} (hm : m_X10_init b0 fu a0 σ = some (v, τ)) : tMt l D aC b0 yX10_init (Cond.code yX10_init cX10_init 1 none) 5 116 [.ref (a0)] σ (.inl none) τ := by
  unfold m_X10_init at hm
  obtain ⟨hg, hm⟩ := grw_e hm
  refine tMt_of (n := 0) rfl (Nat.le_of_ble_eq_true rfl) hg ?_
  intro p e s m below meth c C htab hin
  refine zx_lv [0] [(0, .ref (a0))] rfl ?_
  refine zx_aload_n C dX10_init_0 0 rfl ?_
  refine zx_obj C W_1_25 W_1_26 W_1_27 (by decide) (by decide) (Nat.le_of_ble_eq_true rfl) dX10_init_1 ?_
  refine zx_aload_n C dX10_init_4 0 rfl ?_
  refine zx_new C tC_0 W_1_28 W_1_29 W_1_2 dX10_init_5 ?_
  refine zx_mem (fun ρ1 hρ1 => ?_)
  replace hm := ltb_e hm hρ1
  have k2 : tk ρ1 (b0 + tn σ) = .inl 0 := by rw [hρ1]; exact sN_k _ _ _ _
  have i3 : tIn b0 ρ1 (b0 + tn σ) := by rw [hρ1]; exact sN_i _ _ _ _
  refine zx_dup C dX10_init_8 rfl ?_
  obtain ⟨v4, ρ5, h6, hm⟩ := cll_e hm
  refine zx_callIN (σ := ρ1) C [] Y_X0_init W_1_30 W_1_31 rfl (c_X0_init h6) (by decide) (by decide) rfl (Nat.le_of_ble_eq_true rfl) dX10_init_9 rfl ?_
  obtain ⟨k7, i8, hm⟩ := ckO_e hm
  refine zx_putF (j := 0) (ρ := sA (ρ5) (a0) 0 (some (b0 + tn σ))) C hin tC_10 k7 i8 (by decide) W_2_213 rfl rfl rfl rfl (sA_ok (fun _ => rfl)) dX10_init_12 ?_
  refine zx_aload_n C dX10_init_15 0 rfl ?_
  refine zx_new C tC_5 W_1_87 W_1_88 W_1_3 dX10_init_16 ?_
  refine zx_mem (fun ρ9 hρ9 => ?_)
  replace hm := ltb_e hm hρ9
  have k10 : tk ρ9 (b0 + tn ρ5) = .inl 5 := by rw [hρ9]; exact sN_k _ _ _ _
  have i11 : tIn b0 ρ9 (b0 + tn ρ5) := by rw [hρ9]; exact sN_i _ _ _ _
  refine zx_dup C dX10_init_19 rfl ?_
  obtain ⟨v12, ρ13, h14, hm⟩ := cll_e hm
  refine zx_callIN (σ := ρ9) C [] Y_X5_init W_1_89 W_1_90 rfl (c_X5_init h14) (by decide) (by decide) rfl (Nat.le_of_ble_eq_true rfl) dX10_init_20 rfl ?_
  obtain ⟨k15, i16, hm⟩ := ckO_e hm
  refine zx_putF (j := 1) (ρ := sA (ρ13) (a0) 1 (some (b0 + tn ρ5))) C hin tC_10 k15 i16 (by decide) W_2_214 rfl rfl rfl rfl (sA_ok (fun _ => rfl)) dX10_init_23 ?_
  refine zx_aload_n C dX10_init_26 0 rfl ?_
  refine zx_new C tC_8 W_1_157 W_1_158 W_1_4 dX10_init_27 ?_
  refine zx_mem (fun ρ17 hρ17 => ?_)
  replace hm := ltb_e hm hρ17
  have k18 : tk ρ17 (b0 + tn ρ13) = .inl 8 := by rw [hρ17]; exact sN_k _ _ _ _
  have i19 : tIn b0 ρ17 (b0 + tn ρ13) := by rw [hρ17]; exact sN_i _ _ _ _
  refine zx_dup C dX10_init_30 rfl ?_
  refine zx_aload_n C dX10_init_31 0 rfl ?_
  obtain ⟨k20, i21, hm⟩ := ckO_e hm
  obtain ⟨a22, h23, hm⟩ := osm_e hm
  refine zx_get (j := 1) C tC_10 k20 i21 ⟨by decide, Or.inl W_2_214⟩ dX10_init_32 (.ref a22) (rf_s h23) ?_
  obtain ⟨v24, ρ25, h26, hm⟩ := cll_e hm
  refine zx_callI (σ := ρ17) C [.ref (a22)] Y_X8_init W_1_159 W_1_160 rfl (c_X8_init h26) (by decide) (by decide) rfl (Nat.le_of_ble_eq_true rfl) dX10_init_35 rfl ?_
  obtain ⟨k27, i28, hm⟩ := ckO_e hm
  refine zx_putF (j := 2) (ρ := sA (ρ25) (a0) 2 (some (b0 + tn ρ13))) C hin tC_10 k27 i28 (by decide) W_2_215 rfl rfl rfl rfl (sA_ok (fun _ => rfl)) dX10_init_38 ?_
  refine zx_aload_n C dX10_init_41 0 rfl ?_
  refine zx_new C tC_1 W_1_173 W_1_174 W_1_5 dX10_init_42 ?_
  refine zx_mem (fun ρ29 hρ29 => ?_)
  replace hm := ltb_e hm hρ29
  have k30 : tk ρ29 (b0 + tn ρ25) = .inl 1 := by rw [hρ29]; exact sN_k _ _ _ _
  have i31 : tIn b0 ρ29 (b0 + tn ρ25) := by rw [hρ29]; exact sN_i _ _ _ _
  refine zx_dup C dX10_init_45 rfl ?_
  refine zx_aload_n C dX10_init_46 0 rfl ?_
  obtain ⟨k32, i33, hm⟩ := ckO_e hm
  obtain ⟨a34, h35, hm⟩ := osm_e hm
  refine zx_get (j := 0) C tC_10 k32 i33 ⟨by decide, Or.inl W_2_213⟩ dX10_init_47 (.ref a34) (rf_s h35) ?_
  refine zx_aload_n C dX10_init_50 0 rfl ?_
  obtain ⟨a36, h37, hm⟩ := osm_e hm
  refine zx_get (j := 1) C tC_10 k32 i33 ⟨by decide, Or.inl W_2_214⟩ dX10_init_51 (.ref a36) (rf_s h37) ?_
  refine zx_aload_n C dX10_init_54 0 rfl ?_
  obtain ⟨a38, h39, hm⟩ := osm_e hm
  refine zx_get (j := 2) C tC_10 k32 i33 ⟨by decide, Or.inl W_2_215⟩ dX10_init_55 (.ref a38) (rf_s h39) ?_
  obtain ⟨v40, ρ41, h42, hm⟩ := cll_e hm
  refine zx_callI (σ := ρ29) C [.ref (a34), .ref (a36), .ref (a38)] Y_X1_init W_1_175 W_1_176 rfl (c_X1_init h42) (by decide) (by decide) rfl (Nat.le_of_ble_eq_true rfl) dX10_init_58 rfl ?_
  obtain ⟨k43, i44, hm⟩ := ckO_e hm
  refine zx_putF (j := 3) (ρ := sA (ρ41) (a0) 3 (some (b0 + tn ρ25))) C hin tC_10 k43 i44 (by decide) W_2_216 rfl rfl rfl rfl (sA_ok (fun _ => rfl)) dX10_init_61 ?_
  refine zx_aload_n C dX10_init_64 0 rfl ?_
  refine zx_new C tC_2 W_1_235 W_1_236 W_1_6 dX10_init_65 ?_
  refine zx_mem (fun ρ45 hρ45 => ?_)
  replace hm := ltb_e hm hρ45
  have k46 : tk ρ45 (b0 + tn ρ41) = .inl 2 := by rw [hρ45]; exact sN_k _ _ _ _
  have i47 : tIn b0 ρ45 (b0 + tn ρ41) := by rw [hρ45]; exact sN_i _ _ _ _
  refine zx_dup C dX10_init_68 rfl ?_
  refine zx_aload_n C dX10_init_69 0 rfl ?_
  obtain ⟨k48, i49, hm⟩ := ckO_e hm
  obtain ⟨a50, h51, hm⟩ := osm_e hm
  refine zx_get (j := 0) C tC_10 k48 i49 ⟨by decide, Or.inl W_2_213⟩ dX10_init_70 (.ref a50) (rf_s h51) ?_
  refine zx_aload_n C dX10_init_73 0 rfl ?_
  obtain ⟨a52, h53, hm⟩ := osm_e hm
  refine zx_get (j := 1) C tC_10 k48 i49 ⟨by decide, Or.inl W_2_214⟩ dX10_init_74 (.ref a52) (rf_s h53) ?_
  refine zx_aload_n C dX10_init_77 0 rfl ?_
  obtain ⟨a54, h55, hm⟩ := osm_e hm
  refine zx_get (j := 2) C tC_10 k48 i49 ⟨by decide, Or.inl W_2_215⟩ dX10_init_78 (.ref a54) (rf_s h55) ?_
  refine zx_aload_n C dX10_init_81 0 rfl ?_
  obtain ⟨a56, h57, hm⟩ := osm_e hm
  refine zx_get (j := 3) C tC_10 k48 i49 ⟨by decide, Or.inl W_2_216⟩ dX10_init_82 (.ref a56) (rf_s h57) ?_
  obtain ⟨v58, ρ59, h60, hm⟩ := cll_e hm
  refine zx_callI (σ := ρ45) C [.ref (a50), .ref (a52), .ref (a54), .ref (a56)] Y_X2_init W_1_237 W_1_238 rfl (c_X2_init h60) (by decide) (by decide) rfl (Nat.le_of_ble_eq_true rfl) dX10_init_85 rfl ?_
  obtain ⟨k61, i62, hm⟩ := ckO_e hm
  refine zx_putF (j := 4) (ρ := sA (ρ59) (a0) 4 (some (b0 + tn ρ41))) C hin tC_10 k61 i62 (by decide) W_2_217 rfl rfl rfl rfl (sA_ok (fun _ => rfl)) dX10_init_88 ?_
  refine zx_aload_n C dX10_init_91 0 rfl ?_
  refine zx_new C tC_9 W_2_14 W_2_15 W_1_7 dX10_init_92 ?_
  refine zx_mem (fun ρ63 hρ63 => ?_)
  replace hm := ltb_e hm hρ63
  have k64 : tk ρ63 (b0 + tn ρ59) = .inl 9 := by rw [hρ63]; exact sN_k _ _ _ _
  have i65 : tIn b0 ρ63 (b0 + tn ρ59) := by rw [hρ63]; exact sN_i _ _ _ _
  refine zx_dup C dX10_init_95 rfl ?_
  refine zx_aload_n C dX10_init_96 0 rfl ?_
  obtain ⟨k66, i67, hm⟩ := ckO_e hm
  obtain ⟨a68, h69, hm⟩ := osm_e hm
  refine zx_get (j := 2) C tC_10 k66 i67 ⟨by decide, Or.inl W_2_215⟩ dX10_init_97 (.ref a68) (rf_s h69) ?_
  obtain ⟨v70, ρ71, h72, hm⟩ := cll_e hm
  refine zx_callI (σ := ρ63) C [.ref (a68)] Y_X9_init W_2_16 W_2_17 rfl (c_X9_init h72) (by decide) (by decide) rfl (Nat.le_of_ble_eq_true rfl) dX10_init_100 rfl ?_
  obtain ⟨k73, i74, hm⟩ := ckO_e hm
  refine zx_putF (j := 5) (ρ := sA (ρ71) (a0) 5 (some (b0 + tn ρ59))) C hin tC_10 k73 i74 (by decide) W_2_218 rfl rfl rfl rfl (sA_ok (fun _ => rfl)) dX10_init_103 ?_
  refine zx_aload_n C dX10_init_106 0 rfl ?_
  refine zx_new C tC_6 W_2_36 W_2_37 W_1_8 dX10_init_107 ?_
  refine zx_mem (fun ρ75 hρ75 => ?_)
  replace hm := ltb_e hm hρ75
  have k76 : tk ρ75 (b0 + tn ρ71) = .inl 6 := by rw [hρ75]; exact sN_k _ _ _ _
  have i77 : tIn b0 ρ75 (b0 + tn ρ71) := by rw [hρ75]; exact sN_i _ _ _ _
  refine zx_dup C dX10_init_110 rfl ?_
  obtain ⟨v78, ρ79, h80, hm⟩ := cll_e hm
  refine zx_callIN (σ := ρ75) C [] Y_X6_init W_2_38 W_2_39 rfl (c_X6_init h80) (by decide) (by decide) rfl (Nat.le_of_ble_eq_true rfl) dX10_init_111 rfl ?_
  obtain ⟨k81, i82, hm⟩ := ckO_e hm
  refine zx_putF (j := 6) (ρ := sA (ρ79) (a0) 6 (some (b0 + tn ρ71))) C hin tC_10 k81 i82 (by decide) W_2_219 rfl rfl rfl rfl (sA_ok (fun _ => rfl)) dX10_init_114 ?_
  refine zx_aload_n C dX10_init_117 0 rfl ?_
  refine zx_new C tC_3 W_2_50 W_2_51 W_1_9 dX10_init_118 ?_
  refine zx_mem (fun ρ83 hρ83 => ?_)
  replace hm := ltb_e hm hρ83
  have k84 : tk ρ83 (b0 + tn ρ79) = .inl 3 := by rw [hρ83]; exact sN_k _ _ _ _
  have i85 : tIn b0 ρ83 (b0 + tn ρ79) := by rw [hρ83]; exact sN_i _ _ _ _
  refine zx_dup C dX10_init_121 rfl ?_
  obtain ⟨v86, ρ87, h88, hm⟩ := cll_e hm
  refine zx_callIN (σ := ρ83) C [] Y_X3_init W_2_52 W_2_53 rfl (c_X3_init h88) (by decide) (by decide) rfl (Nat.le_of_ble_eq_true rfl) dX10_init_122 rfl ?_
  obtain ⟨k89, i90, hm⟩ := ckO_e hm
  refine zx_putF (j := 7) (ρ := sA (ρ87) (a0) 7 (some (b0 + tn ρ79))) C hin tC_10 k89 i90 (by decide) W_2_220 rfl rfl rfl rfl (sA_ok (fun _ => rfl)) dX10_init_125 ?_
  refine zx_aload_n C dX10_init_128 0 rfl ?_
  refine zx_new C tC_3 W_2_50 W_2_51 W_1_9 dX10_init_129 ?_
  refine zx_mem (fun ρ91 hρ91 => ?_)
  replace hm := ltb_e hm hρ91
  have k92 : tk ρ91 (b0 + tn ρ87) = .inl 3 := by rw [hρ91]; exact sN_k _ _ _ _
  have i93 : tIn b0 ρ91 (b0 + tn ρ87) := by rw [hρ91]; exact sN_i _ _ _ _
  refine zx_dup C dX10_init_132 rfl ?_
  obtain ⟨v94, ρ95, h96, hm⟩ := cll_e hm
  refine zx_callIN (σ := ρ91) C [] Y_X3_init W_2_52 W_2_53 rfl (c_X3_init h96) (by decide) (by decide) rfl (Nat.le_of_ble_eq_true rfl) dX10_init_133 rfl ?_
  obtain ⟨k97, i98, hm⟩ := ckO_e hm
  refine zx_putF (j := 8) (ρ := sA (ρ95) (a0) 8 (some (b0 + tn ρ87))) C hin tC_10 k97 i98 (by decide) W_2_221 rfl rfl rfl rfl (sA_ok (fun _ => rfl)) dX10_init_136 ?_
  refine zx_aload_n C dX10_init_139 0 rfl ?_
  refine zx_bipush (v := 16) C dX10_init_140 (by decide) ?_
  refine zx_newI C W_1_85 (by decide) (by decide) dX10_init_142 ?_
  refine zx_mem (fun ρ99 hρ99 => ?_)
  replace hm := ltb_e hm hρ99
  have k100 : tk ρ99 (b0 + tn ρ95) = .inr (0, ((16 : Int32)).toNatClampNeg) := by rw [hρ99]; exact sN_k _ _ _ _
  have i101 : tIn b0 ρ99 (b0 + tn ρ95) := by rw [hρ99]; exact sN_i _ _ _ _
  obtain ⟨k102, i103, hm⟩ := ckO_e hm
  refine zx_putF (j := 9) (ρ := sA (ρ99) (a0) 9 (some (b0 + tn ρ95))) C hin tC_10 k102 i103 (by decide) W_2_222 rfl rfl rfl rfl (sA_ok (fun _ => rfl)) dX10_init_144 ?_
  refine zx_aload_n C dX10_init_147 0 rfl ?_
  refine zx_bipush (v := 40) C dX10_init_148 (by decide) ?_
  refine zx_bipush (v := 16) C dX10_init_150 (by decide) ?_
  obtain ⟨v104, ρ105, h106, hm⟩ := cll_e hm
  refine zx_callV (σ := sA (ρ99) (a0) 9 (some (b0 + tn ρ95))) C [.int (40), .int (16)] tC_10 k102 i103 Y_X10_begin W_2_81 W_2_83 Wp_0 (c_X10_begin h106) (by decide) (by decide) rfl (Nat.le_of_ble_eq_true rfl) dX10_init_152 rfl ?_
  obtain ⟨rfl, rfl⟩ := ret_e hm
  exact zx_vret C rfl rfl rfl dX10_init_155
abbrev cX10_format : ByteArray := prog_1_method_2_code
def yX10_format : MethodName := ⟨"SyncTree", "format", "(II)I"⟩
theorem Y_X10_format : tY yX10_format cX10_format 3 (some .int) 2 := ⟨W_3_7, W_1_1, ⟨by decide +kernel, by decide +kernel⟩, by decide +kernel⟩
theorem dX10_format_0 : decode cX10_format 0 = .ok (.iload_n 1, 1) := by decide +kernel
theorem dX10_format_1 : decode cX10_format 1 = .ok (.bipush 40, 2) := by decide +kernel
theorem dX10_format_3 : decode cX10_format 3 = .ok (.if_icmp .lt 23, 3) := by decide +kernel
theorem dX10_format_6 : decode cX10_format 6 = .ok (.iload_n 1, 1) := by decide +kernel
theorem dX10_format_7 : decode cX10_format 7 = .ok (.sipush 4096, 3) := by decide +kernel
theorem dX10_format_10 : decode cX10_format 10 = .ok (.if_icmp .gt 16, 3) := by decide +kernel
theorem dX10_format_13 : decode cX10_format 13 = .ok (.iload_n 2, 1) := by decide +kernel
theorem dX10_format_14 : decode cX10_format 14 = .ok (.bipush 16, 2) := by decide +kernel
theorem dX10_format_16 : decode cX10_format 16 = .ok (.if_icmp .lt 10, 3) := by decide +kernel
theorem dX10_format_19 : decode cX10_format 19 = .ok (.iload_n 2, 1) := by decide +kernel
theorem dX10_format_20 : decode cX10_format 20 = .ok (.sipush 2000, 3) := by decide +kernel
theorem dX10_format_23 : decode cX10_format 23 = .ok (.if_icmp .le 6, 3) := by decide +kernel
theorem dX10_format_26 : decode cX10_format 26 = .ok (.bipush (-9), 2) := by decide +kernel
theorem dX10_format_28 : decode cX10_format 28 = .ok (.ireturn, 1) := by decide +kernel
theorem dX10_format_29 : decode cX10_format 29 = .ok (.aload_n 0, 1) := by decide +kernel
theorem dX10_format_30 : decode cX10_format 30 = .ok (.iload_n 1, 1) := by decide +kernel
theorem dX10_format_31 : decode cX10_format 31 = .ok (.iload_n 2, 1) := by decide +kernel
theorem dX10_format_32 : decode cX10_format 32 = .ok (.invokevirtual 80, 3) := by decide +kernel
theorem dX10_format_35 : decode cX10_format 35 = .ok (.bipush 34, 2) := by decide +kernel
theorem dX10_format_37 : decode cX10_format 37 = .ok (.iload_n 1, 1) := by decide +kernel
theorem dX10_format_38 : decode cX10_format 38 = .ok (.iadd, 1) := by decide +kernel
theorem dX10_format_39 : decode cX10_format 39 = .ok (.iload_n 2, 1) := by decide +kernel
theorem dX10_format_40 : decode cX10_format 40 = .ok (.iadd, 1) := by decide +kernel
theorem dX10_format_41 : decode cX10_format 41 = .ok (.ireturn, 1) := by decide +kernel
set_option maxRecDepth 100000 in
set_option maxHeartbeats 1000000 in
theorem j_X10_format_26 {p : Program} {l : Launch} {e : Env} {s : State} {m : MethodId} {args : Array Value} {below : List Frame} {meth : Method} {c : Code} {D : va_G} {aC : Nat → ClassId} {b0 fu : Nat} {σ0 τ : tM} {v : Int32}  (C : tCx p l s m args meth c yX10_format.cls cX10_format 3 (some .int) D aC b0 σ0) (htab : ∀ x ∈ c.exceptionTable.toList, False) (hin : meth.name = yX10_format.name)   {σ : tM} (hm : J_X10_format_26 b0 fu   σ = some (v, τ)) : tX p l e s m args below meth c 3 5 116 D aC b0 σ0 (.inl (some (.int v))) τ 26 [] [] σ := by
  unfold J_X10_format_26 at hm
  refine zx_bipush (v := (-9)) C dX10_format_26 (by decide) ?_
  obtain ⟨rfl, rfl⟩ := ret_e hm
  exact zx_iret C rfl rfl rfl dX10_format_28
set_option maxRecDepth 100000 in
set_option maxHeartbeats 1000000 in
theorem c_X10_format {l : Launch} {D : va_G} {aC : Nat → ClassId} {b0 fu : Nat} {a0 : Nat} {p0 : Int32} {p1 : Int32} {σ τ : tM} {v : Int32} (hm : m_X10_format b0 fu a0 p0 p1 σ = some (v, τ)) : tMt l D aC b0 yX10_format (Cond.code yX10_format cX10_format 3 (some .int)) 5 116 [.ref (a0), .int (p0), .int (p1)] σ (.inl (some (.int v))) τ := by
  unfold m_X10_format at hm
  obtain ⟨hg, hm⟩ := grw_e hm
  refine tMt_of (n := 0) rfl (Nat.le_of_ble_eq_true rfl) hg ?_
  intro p e s m below meth c C htab hin
  refine zx_lv [0, 1, 2] [(0, .ref (a0)), (1, .int (p0)), (2, .int (p1))] rfl ?_
  refine zx_iload_n C dX10_format_0 1 rfl ?_
  refine zx_bipush (v := 40) C dX10_format_1 (by decide) ?_
  refine zx_icmp_lt C 26 dX10_format_3 (by decide) (fun c1 => ?_) (fun c1 => ?_)
  · replace hm := ip_e hm c1
    exact zx_lv [] [] rfl (j_X10_format_26 C htab hin    hm)
  · replace hm := in_e hm c1
    refine zx_iload_n C dX10_format_6 1 rfl ?_
    refine zx_sipush (v := 4096) C dX10_format_7 (by decide) ?_
    refine zx_icmp_gt C 26 dX10_format_10 (by decide) (fun c2 => ?_) (fun c2 => ?_)
    · replace hm := ip_e hm c2
      exact zx_lv [] [] rfl (j_X10_format_26 C htab hin    hm)
    · replace hm := in_e hm c2
      refine zx_iload_n C dX10_format_13 2 rfl ?_
      refine zx_bipush (v := 16) C dX10_format_14 (by decide) ?_
      refine zx_icmp_lt C 26 dX10_format_16 (by decide) (fun c3 => ?_) (fun c3 => ?_)
      · replace hm := ip_e hm c3
        exact zx_lv [] [] rfl (j_X10_format_26 C htab hin    hm)
      · replace hm := in_e hm c3
        refine zx_iload_n C dX10_format_19 2 rfl ?_
        refine zx_sipush (v := 2000) C dX10_format_20 (by decide) ?_
        refine zx_icmp_le C 29 dX10_format_23 (by decide) (fun c4 => ?_) (fun c4 => ?_)
        · replace hm := ip_e hm c4
          refine zx_aload_n C dX10_format_29 0 rfl ?_
          refine zx_iload_n C dX10_format_30 1 rfl ?_
          refine zx_iload_n C dX10_format_31 2 rfl ?_
          obtain ⟨k5, i6, hm⟩ := ckO_e hm
          obtain ⟨v7, ρ8, h9, hm⟩ := cll_e hm
          refine zx_callV (σ := σ) C [.int (p0), .int (p1)] tC_10 k5 i6 Y_X10_begin W_2_81 W_2_83 Wp_0 (c_X10_begin h9) (by decide) (by decide) rfl (Nat.le_of_ble_eq_true rfl) dX10_format_32 rfl ?_
          refine zx_bipush (v := 34) C dX10_format_35 (by decide) ?_
          refine zx_iload_n C dX10_format_37 1 rfl ?_
          refine zx_iadd C dX10_format_38 ?_
          refine zx_iload_n C dX10_format_39 2 rfl ?_
          refine zx_iadd C dX10_format_40 ?_
          obtain ⟨rfl, rfl⟩ := ret_e hm
          exact zx_iret C rfl rfl rfl dX10_format_41
        · replace hm := in_e hm c4
          exact zx_lv [] [] rfl (j_X10_format_26 C htab hin    hm)
abbrev cX10_fsync : ByteArray := prog_1_method_34_code
def yX10_fsync : MethodName := ⟨"SyncTree", "fsync", "(I)I"⟩
theorem Y_X10_fsync : tY yX10_fsync cX10_fsync 4 (some .int) 1 := ⟨W_6_34, W_1_1, ⟨by decide +kernel, by decide +kernel⟩, by decide +kernel⟩
theorem dX10_fsync_0 : decode cX10_fsync 0 = .ok (.aload_n 0, 1) := by decide +kernel
theorem dX10_fsync_1 : decode cX10_fsync 1 = .ok (.getfield 12, 3) := by decide +kernel
theorem dX10_fsync_4 : decode cX10_fsync 4 = .ok (.invokevirtual 221, 3) := by decide +kernel
theorem dX10_fsync_7 : decode cX10_fsync 7 = .ok (.aload_n 0, 1) := by decide +kernel
theorem dX10_fsync_8 : decode cX10_fsync 8 = .ok (.iload_n 1, 1) := by decide +kernel
theorem dX10_fsync_9 : decode cX10_fsync 9 = .ok (.invokevirtual 224, 3) := by decide +kernel
theorem dX10_fsync_12 : decode cX10_fsync 12 = .ok (.istore_n 2, 1) := by decide +kernel
theorem dX10_fsync_13 : decode cX10_fsync 13 = .ok (.iload_n 2, 1) := by decide +kernel
theorem dX10_fsync_14 : decode cX10_fsync 14 = .ok (.ifCond .ge 6, 3) := by decide +kernel
theorem dX10_fsync_17 : decode cX10_fsync 17 = .ok (.bipush (-9), 2) := by decide +kernel
theorem dX10_fsync_19 : decode cX10_fsync 19 = .ok (.ireturn, 1) := by decide +kernel
theorem dX10_fsync_20 : decode cX10_fsync 20 = .ok (.aload_n 0, 1) := by decide +kernel
theorem dX10_fsync_21 : decode cX10_fsync 21 = .ok (.iload_n 2, 1) := by decide +kernel
theorem dX10_fsync_22 : decode cX10_fsync 22 = .ok (.ldc_w 298, 3) := by decide +kernel
theorem dX10_fsync_25 : decode cX10_fsync 25 = .ok (.invokevirtual 299, 3) := by decide +kernel
theorem dX10_fsync_28 : decode cX10_fsync 28 = .ok (.istore_n 3, 1) := by decide +kernel
theorem dX10_fsync_29 : decode cX10_fsync 29 = .ok (.aload_n 0, 1) := by decide +kernel
theorem dX10_fsync_30 : decode cX10_fsync 30 = .ok (.getfield 37, 3) := by decide +kernel
theorem dX10_fsync_33 : decode cX10_fsync 33 = .ok (.invokevirtual 302, 3) := by decide +kernel
theorem dX10_fsync_36 : decode cX10_fsync 36 = .ok (.pop, 1) := by decide +kernel
theorem dX10_fsync_37 : decode cX10_fsync 37 = .ok (.aload_n 0, 1) := by decide +kernel
theorem dX10_fsync_38 : decode cX10_fsync 38 = .ok (.getfield 37, 3) := by decide +kernel
theorem dX10_fsync_41 : decode cX10_fsync 41 = .ok (.invokevirtual 305, 3) := by decide +kernel
theorem dX10_fsync_44 : decode cX10_fsync 44 = .ok (.iload_n 3, 1) := by decide +kernel
theorem dX10_fsync_45 : decode cX10_fsync 45 = .ok (.ireturn, 1) := by decide +kernel
set_option maxRecDepth 100000 in
set_option maxHeartbeats 1000000 in
theorem c_X10_fsync {l : Launch} {D : va_G} {aC : Nat → ClassId} {b0 fu : Nat} {a0 : Nat} {p0 : Int32} {σ τ : tM} {v : (Int32) ⊕ Unit} (hm : m_X10_fsync b0 fu a0 p0 σ = some (v, τ)) : tMt l D aC b0 yX10_fsync (Cond.code yX10_fsync cX10_fsync 4 (some .int)) 11 199 [.ref (a0), .int (p0)] σ (rxI "java/lang/IllegalStateException" v) τ := by
  unfold m_X10_fsync at hm
  obtain ⟨hg, hm⟩ := grw_e hm
  refine tMt_of (n := 0) rfl (Nat.le_of_ble_eq_true rfl) hg ?_
  intro p e s m below meth c C htab hin
  refine zx_lv [0, 1] [(0, .ref (a0)), (1, .int (p0))] rfl ?_
  refine zx_aload_n C dX10_fsync_0 0 rfl ?_
  obtain ⟨k1, i2, hm⟩ := ckO_e hm
  obtain ⟨a3, h4, hm⟩ := osm_e hm
  refine zx_get (j := 0) C tC_10 k1 i2 ⟨by decide, Or.inl W_2_213⟩ dX10_fsync_1 (.ref a3) (rf_s h4) ?_
  obtain ⟨k5, i6, hm⟩ := ckO_e hm
  rcases clx_e hm with ⟨v7, ρ8, h9, hm⟩ | ⟨ρ8, h9, hm⟩
  · refine zx_callV (σ := σ) C [] tC_0 k5 i6 Y_X0_demandPower W_5_130 W_3_113 W_3_114 (c_X0_demandPower h9) (by decide) (by decide) rfl (Nat.le_of_ble_eq_true rfl) dX10_fsync_4 rfl ?_
    refine zx_aload_n C dX10_fsync_7 0 rfl ?_
    refine zx_iload_n C dX10_fsync_8 1 rfl ?_
    obtain ⟨k10, i11, hm⟩ := ckO_e hm
    obtain ⟨v12, ρ13, h14, hm⟩ := cll_e hm
    refine zx_callV (σ := ρ8) C [.int (p0)] tC_10 k10 i11 Y_X10_fileOf W_5_138 W_5_140 Wp_41 (c_X10_fileOf h14) (by decide) (by decide) rfl (Nat.le_of_ble_eq_true rfl) dX10_fsync_9 rfl ?_
    refine zx_istore_n C [(2, .int (v12)), (0, .ref (a0)), (1, .int (p0))] dX10_fsync_12 rfl (by decide) rfl ?_
    refine zx_iload_n C dX10_fsync_13 0 rfl ?_
    refine zx_if_ge C 20 dX10_fsync_14 (by decide) (fun c15 => ?_) (fun c15 => ?_)
    · replace hm := ip_e hm c15
      refine zx_aload_n C dX10_fsync_20 1 rfl ?_
      refine zx_iload_n C dX10_fsync_21 0 rfl ?_
      refine zx_ldcw (v := 1000000) C W_6_35 dX10_fsync_22 ?_
      obtain ⟨k16, i17, hm⟩ := ckO_e hm
      rcases clx_e hm with ⟨v18, ρ19, h20, hm⟩ | ⟨ρ19, h20, hm⟩
      · refine zx_callV (σ := ρ13) C [.int (v12), .int (1000000)] tC_10 k16 i17 Y_X10_writeDirty W_6_36 W_6_38 Wp_45 (c_X10_writeDirty h20) (by decide) (by decide) rfl (Nat.le_of_ble_eq_true rfl) dX10_fsync_25 rfl ?_
        refine zx_istore_n C [(3, .int (v18)), (2, .int (v12)), (0, .ref (a0)), (1, .int (p0))] dX10_fsync_28 rfl (by decide) rfl ?_
        refine zx_aload_n C dX10_fsync_29 2 rfl ?_
        obtain ⟨k21, i22, hm⟩ := ckO_e hm
        obtain ⟨a23, h24, hm⟩ := osm_e hm
        refine zx_get (j := 3) C tC_10 k21 i22 ⟨by decide, Or.inl W_2_216⟩ dX10_fsync_30 (.ref a23) (rf_s h24) ?_
        obtain ⟨k25, i26, hm⟩ := ckO_e hm
        rcases clx_e hm with ⟨v27, ρ28, h29, hm⟩ | ⟨ρ28, h29, hm⟩
        · refine zx_callV (σ := ρ19) C [] tC_1 k25 i26 Y_X1_postGroup W_6_60 W_3_184 W_3_185 (c_X1_postGroup h29) (by decide) (by decide) rfl (Nat.le_of_ble_eq_true rfl) dX10_fsync_33 rfl ?_
          refine zx_pop C dX10_fsync_36 rfl ?_
          refine zx_aload_n C dX10_fsync_37 2 rfl ?_
          obtain ⟨k30, i31, hm⟩ := ckO_e hm
          obtain ⟨a32, h33, hm⟩ := osm_e hm
          refine zx_get (j := 3) C tC_10 k30 i31 ⟨by decide, Or.inl W_2_216⟩ dX10_fsync_38 (.ref a32) (rf_s h33) ?_
          obtain ⟨k34, i35, hm⟩ := ckO_e hm
          rcases clx_e hm with ⟨v36, ρ37, h38, hm⟩ | ⟨ρ37, h38, hm⟩
          · refine zx_callV (σ := ρ28) C [] tC_1 k34 i35 Y_X1_flush W_6_61 W_3_192 W_3_193 (c_X1_flush h38) (by decide) (by decide) rfl (Nat.le_of_ble_eq_true rfl) dX10_fsync_41 rfl ?_
            refine zx_iload_n C dX10_fsync_44 0 rfl ?_
            obtain ⟨rfl, rfl⟩ := ret_e hm
            exact zx_iret C rfl rfl rfl dX10_fsync_45
          · cases hm
            exact zx_outV (σ := ρ28) C htab [] tC_1 k34 i35 Y_X1_flush W_6_61 W_3_192 W_3_193 (c_X1_flush h38) rfl (by decide) (by decide) rfl (Nat.le_of_ble_eq_true rfl) dX10_fsync_41 rfl
        · cases hm
          exact zx_outV (σ := ρ19) C htab [] tC_1 k25 i26 Y_X1_postGroup W_6_60 W_3_184 W_3_185 (c_X1_postGroup h29) rfl (by decide) (by decide) rfl (Nat.le_of_ble_eq_true rfl) dX10_fsync_33 rfl
      · cases hm
        exact zx_outV (σ := ρ13) C htab [.int (v12), .int (1000000)] tC_10 k16 i17 Y_X10_writeDirty W_6_36 W_6_38 Wp_45 (c_X10_writeDirty h20) rfl (by decide) (by decide) rfl (Nat.le_of_ble_eq_true rfl) dX10_fsync_25 rfl
    · replace hm := in_e hm c15
      refine zx_bipush (v := (-9)) C dX10_fsync_17 (by decide) ?_
      obtain ⟨rfl, rfl⟩ := ret_e hm
      exact zx_iret C rfl rfl rfl dX10_fsync_19
  · cases hm
    exact zx_outV (σ := σ) C htab [] tC_0 k5 i6 Y_X0_demandPower W_5_130 W_3_113 W_3_114 (c_X0_demandPower h9) rfl (by decide) (by decide) rfl (Nat.le_of_ble_eq_true rfl) dX10_fsync_4 rfl
abbrev cX10_fdatasync : ByteArray := prog_1_method_35_code
def yX10_fdatasync : MethodName := ⟨"SyncTree", "fdatasync", "(I)I"⟩
theorem Y_X10_fdatasync : tY yX10_fdatasync cX10_fdatasync 4 (some .int) 1 := ⟨W_6_68, W_1_1, ⟨by decide +kernel, by decide +kernel⟩, by decide +kernel⟩
theorem dX10_fdatasync_0 : decode cX10_fdatasync 0 = .ok (.aload_n 0, 1) := by decide +kernel
theorem dX10_fdatasync_1 : decode cX10_fdatasync 1 = .ok (.getfield 12, 3) := by decide +kernel
theorem dX10_fdatasync_4 : decode cX10_fdatasync 4 = .ok (.invokevirtual 221, 3) := by decide +kernel
theorem dX10_fdatasync_7 : decode cX10_fdatasync 7 = .ok (.aload_n 0, 1) := by decide +kernel
theorem dX10_fdatasync_8 : decode cX10_fdatasync 8 = .ok (.iload_n 1, 1) := by decide +kernel
theorem dX10_fdatasync_9 : decode cX10_fdatasync 9 = .ok (.invokevirtual 224, 3) := by decide +kernel
theorem dX10_fdatasync_12 : decode cX10_fdatasync 12 = .ok (.istore_n 2, 1) := by decide +kernel
theorem dX10_fdatasync_13 : decode cX10_fdatasync 13 = .ok (.iload_n 2, 1) := by decide +kernel
theorem dX10_fdatasync_14 : decode cX10_fdatasync 14 = .ok (.ifCond .ge 6, 3) := by decide +kernel
theorem dX10_fdatasync_17 : decode cX10_fdatasync 17 = .ok (.bipush (-9), 2) := by decide +kernel
theorem dX10_fdatasync_19 : decode cX10_fdatasync 19 = .ok (.ireturn, 1) := by decide +kernel
theorem dX10_fdatasync_20 : decode cX10_fdatasync 20 = .ok (.aload_n 0, 1) := by decide +kernel
theorem dX10_fdatasync_21 : decode cX10_fdatasync 21 = .ok (.iload_n 2, 1) := by decide +kernel
theorem dX10_fdatasync_22 : decode cX10_fdatasync 22 = .ok (.ldc_w 298, 3) := by decide +kernel
theorem dX10_fdatasync_25 : decode cX10_fdatasync 25 = .ok (.invokevirtual 299, 3) := by decide +kernel
theorem dX10_fdatasync_28 : decode cX10_fdatasync 28 = .ok (.istore_n 3, 1) := by decide +kernel
theorem dX10_fdatasync_29 : decode cX10_fdatasync 29 = .ok (.aload_n 0, 1) := by decide +kernel
theorem dX10_fdatasync_30 : decode cX10_fdatasync 30 = .ok (.getfield 28, 3) := by decide +kernel
theorem dX10_fdatasync_33 : decode cX10_fdatasync 33 = .ok (.iload_n 2, 1) := by decide +kernel
theorem dX10_fdatasync_34 : decode cX10_fdatasync 34 = .ok (.invokevirtual 308, 3) := by decide +kernel
theorem dX10_fdatasync_37 : decode cX10_fdatasync 37 = .ok (.ifCond .eq 11, 3) := by decide +kernel
theorem dX10_fdatasync_40 : decode cX10_fdatasync 40 = .ok (.aload_n 0, 1) := by decide +kernel
theorem dX10_fdatasync_41 : decode cX10_fdatasync 41 = .ok (.getfield 37, 3) := by decide +kernel
theorem dX10_fdatasync_44 : decode cX10_fdatasync 44 = .ok (.invokevirtual 302, 3) := by decide +kernel
theorem dX10_fdatasync_47 : decode cX10_fdatasync 47 = .ok (.pop, 1) := by decide +kernel
theorem dX10_fdatasync_48 : decode cX10_fdatasync 48 = .ok (.aload_n 0, 1) := by decide +kernel
theorem dX10_fdatasync_49 : decode cX10_fdatasync 49 = .ok (.getfield 37, 3) := by decide +kernel
theorem dX10_fdatasync_52 : decode cX10_fdatasync 52 = .ok (.invokevirtual 305, 3) := by decide +kernel
theorem dX10_fdatasync_55 : decode cX10_fdatasync 55 = .ok (.iload_n 3, 1) := by decide +kernel
theorem dX10_fdatasync_56 : decode cX10_fdatasync 56 = .ok (.ireturn, 1) := by decide +kernel
set_option maxRecDepth 100000 in
set_option maxHeartbeats 1000000 in
theorem j_X10_fdatasync_48 {p : Program} {l : Launch} {e : Env} {s : State} {m : MethodId} {args : Array Value} {below : List Frame} {meth : Method} {c : Code} {D : va_G} {aC : Nat → ClassId} {b0 fu : Nat} {σ0 τ : tM} {v : (Int32) ⊕ Unit}  (C : tCx p l s m args meth c yX10_fdatasync.cls cX10_fdatasync 4 (some .int) D aC b0 σ0) (htab : ∀ x ∈ c.exceptionTable.toList, False) (hin : meth.name = yX10_fdatasync.name)  {x0 : Nat} {x3 : Int32} {σ : tM} (hm : J_X10_fdatasync_48 b0 fu  x0 x3 σ = some (v, τ)) : tX p l e s m args below meth c 4 11 199 D aC b0 σ0 (rxI "java/lang/IllegalStateException" v) τ 48 [(0, .ref (x0)), (3, .int (x3))] [] σ := by
  unfold J_X10_fdatasync_48 at hm
  refine zx_aload_n C dX10_fdatasync_48 0 rfl ?_
  obtain ⟨k31, i32, hm⟩ := ckO_e hm
  obtain ⟨a33, h34, hm⟩ := osm_e hm
  refine zx_get (j := 3) C tC_10 k31 i32 ⟨by decide, Or.inl W_2_216⟩ dX10_fdatasync_49 (.ref a33) (rf_s h34) ?_
  obtain ⟨k35, i36, hm⟩ := ckO_e hm
  rcases clx_e hm with ⟨v37, ρ38, h39, hm⟩ | ⟨ρ38, h39, hm⟩
  · refine zx_callV (σ := σ) C [] tC_1 k35 i36 Y_X1_flush W_6_61 W_3_192 W_3_193 (c_X1_flush h39) (by decide) (by decide) rfl (Nat.le_of_ble_eq_true rfl) dX10_fdatasync_52 rfl ?_
    refine zx_iload_n C dX10_fdatasync_55 1 rfl ?_
    obtain ⟨rfl, rfl⟩ := ret_e hm
    exact zx_iret C rfl rfl rfl dX10_fdatasync_56
  · cases hm
    exact zx_outV (σ := σ) C htab [] tC_1 k35 i36 Y_X1_flush W_6_61 W_3_192 W_3_193 (c_X1_flush h39) rfl (by decide) (by decide) rfl (Nat.le_of_ble_eq_true rfl) dX10_fdatasync_52 rfl
set_option maxRecDepth 100000 in
set_option maxHeartbeats 1000000 in
theorem c_X10_fdatasync {l : Launch} {D : va_G} {aC : Nat → ClassId} {b0 fu : Nat} {a0 : Nat} {p0 : Int32} {σ τ : tM} {v : (Int32) ⊕ Unit} (hm : m_X10_fdatasync b0 fu a0 p0 σ = some (v, τ)) : tMt l D aC b0 yX10_fdatasync (Cond.code yX10_fdatasync cX10_fdatasync 4 (some .int)) 11 199 [.ref (a0), .int (p0)] σ (rxI "java/lang/IllegalStateException" v) τ := by
  unfold m_X10_fdatasync at hm
  obtain ⟨hg, hm⟩ := grw_e hm
  refine tMt_of (n := 0) rfl (Nat.le_of_ble_eq_true rfl) hg ?_
  intro p e s m below meth c C htab hin
  refine zx_lv [0, 1] [(0, .ref (a0)), (1, .int (p0))] rfl ?_
  refine zx_aload_n C dX10_fdatasync_0 0 rfl ?_
  obtain ⟨k1, i2, hm⟩ := ckO_e hm
  obtain ⟨a3, h4, hm⟩ := osm_e hm
  refine zx_get (j := 0) C tC_10 k1 i2 ⟨by decide, Or.inl W_2_213⟩ dX10_fdatasync_1 (.ref a3) (rf_s h4) ?_
  obtain ⟨k5, i6, hm⟩ := ckO_e hm
  rcases clx_e hm with ⟨v7, ρ8, h9, hm⟩ | ⟨ρ8, h9, hm⟩
  · refine zx_callV (σ := σ) C [] tC_0 k5 i6 Y_X0_demandPower W_5_130 W_3_113 W_3_114 (c_X0_demandPower h9) (by decide) (by decide) rfl (Nat.le_of_ble_eq_true rfl) dX10_fdatasync_4 rfl ?_
    refine zx_aload_n C dX10_fdatasync_7 0 rfl ?_
    refine zx_iload_n C dX10_fdatasync_8 1 rfl ?_
    obtain ⟨k10, i11, hm⟩ := ckO_e hm
    obtain ⟨v12, ρ13, h14, hm⟩ := cll_e hm
    refine zx_callV (σ := ρ8) C [.int (p0)] tC_10 k10 i11 Y_X10_fileOf W_5_138 W_5_140 Wp_41 (c_X10_fileOf h14) (by decide) (by decide) rfl (Nat.le_of_ble_eq_true rfl) dX10_fdatasync_9 rfl ?_
    refine zx_istore_n C [(2, .int (v12)), (0, .ref (a0)), (1, .int (p0))] dX10_fdatasync_12 rfl (by decide) rfl ?_
    refine zx_iload_n C dX10_fdatasync_13 0 rfl ?_
    refine zx_if_ge C 20 dX10_fdatasync_14 (by decide) (fun c15 => ?_) (fun c15 => ?_)
    · replace hm := ip_e hm c15
      refine zx_aload_n C dX10_fdatasync_20 1 rfl ?_
      refine zx_iload_n C dX10_fdatasync_21 0 rfl ?_
      refine zx_ldcw (v := 1000000) C W_6_35 dX10_fdatasync_22 ?_
      obtain ⟨k16, i17, hm⟩ := ckO_e hm
      rcases clx_e hm with ⟨v18, ρ19, h20, hm⟩ | ⟨ρ19, h20, hm⟩
      · refine zx_callV (σ := ρ13) C [.int (v12), .int (1000000)] tC_10 k16 i17 Y_X10_writeDirty W_6_36 W_6_38 Wp_45 (c_X10_writeDirty h20) (by decide) (by decide) rfl (Nat.le_of_ble_eq_true rfl) dX10_fdatasync_25 rfl ?_
        refine zx_istore_n C [(3, .int (v18)), (2, .int (v12)), (0, .ref (a0)), (1, .int (p0))] dX10_fdatasync_28 rfl (by decide) rfl ?_
        refine zx_aload_n C dX10_fdatasync_29 2 rfl ?_
        obtain ⟨k21, i22, hm⟩ := ckO_e hm
        obtain ⟨a23, h24, hm⟩ := osm_e hm
        refine zx_get (j := 2) C tC_10 k21 i22 ⟨by decide, Or.inl W_2_215⟩ dX10_fdatasync_30 (.ref a23) (rf_s h24) ?_
        refine zx_iload_n C dX10_fdatasync_33 1 rfl ?_
        obtain ⟨k25, i26, hm⟩ := ckO_e hm
        obtain ⟨v27, ρ28, h29, hm⟩ := cll_e hm
        refine zx_callV (σ := ρ19) C [.int (v12)] tC_8 k25 i26 Y_X8_isChanged W_6_69 W_6_70 W_6_71 (c_X8_isChanged h29) (by decide) (by decide) rfl (Nat.le_of_ble_eq_true rfl) dX10_fdatasync_34 rfl ?_
        refine zx_if_eq C 48 dX10_fdatasync_37 (by decide) (fun c30 => ?_) (fun c30 => ?_)
        · replace hm := ip_e hm c30
          exact zx_lv [2, 0] [(0, .ref (a0)), (3, .int (v18))] rfl (j_X10_fdatasync_48 C htab hin    hm)
        · replace hm := in_e hm c30
          refine zx_aload_n C dX10_fdatasync_40 2 rfl ?_
          obtain ⟨k41, i42, hm⟩ := ckO_e hm
          obtain ⟨a43, h44, hm⟩ := osm_e hm
          refine zx_get (j := 3) C tC_10 k41 i42 ⟨by decide, Or.inl W_2_216⟩ dX10_fdatasync_41 (.ref a43) (rf_s h44) ?_
          obtain ⟨k45, i46, hm⟩ := ckO_e hm
          rcases clx_e hm with ⟨v47, ρ48, h49, hm⟩ | ⟨ρ48, h49, hm⟩
          · refine zx_callV (σ := ρ28) C [] tC_1 k45 i46 Y_X1_postGroup W_6_60 W_3_184 W_3_185 (c_X1_postGroup h49) (by decide) (by decide) rfl (Nat.le_of_ble_eq_true rfl) dX10_fdatasync_44 rfl ?_
            refine zx_pop C dX10_fdatasync_47 rfl ?_
            exact zx_lv [2, 0] [(0, .ref (a0)), (3, .int (v18))] rfl (j_X10_fdatasync_48 C htab hin    hm)
          · cases hm
            exact zx_outV (σ := ρ28) C htab [] tC_1 k45 i46 Y_X1_postGroup W_6_60 W_3_184 W_3_185 (c_X1_postGroup h49) rfl (by decide) (by decide) rfl (Nat.le_of_ble_eq_true rfl) dX10_fdatasync_44 rfl
      · cases hm
        exact zx_outV (σ := ρ13) C htab [.int (v12), .int (1000000)] tC_10 k16 i17 Y_X10_writeDirty W_6_36 W_6_38 Wp_45 (c_X10_writeDirty h20) rfl (by decide) (by decide) rfl (Nat.le_of_ble_eq_true rfl) dX10_fdatasync_25 rfl
    · replace hm := in_e hm c15
      refine zx_bipush (v := (-9)) C dX10_fdatasync_17 (by decide) ?_
      obtain ⟨rfl, rfl⟩ := ret_e hm
      exact zx_iret C rfl rfl rfl dX10_fdatasync_19
  · cases hm
    exact zx_outV (σ := σ) C htab [] tC_0 k5 i6 Y_X0_demandPower W_5_130 W_3_113 W_3_114 (c_X0_demandPower h9) rfl (by decide) (by decide) rfl (Nat.le_of_ble_eq_true rfl) dX10_fdatasync_4 rfl
abbrev cX10_sync : ByteArray := prog_1_method_36_code
def yX10_sync : MethodName := ⟨"SyncTree", "sync", "()I"⟩
theorem Y_X10_sync : tY yX10_sync cX10_sync 2 (some .int) 0 := ⟨W_6_79, W_1_1, ⟨by decide +kernel, by decide +kernel⟩, by decide +kernel⟩
theorem dX10_sync_0 : decode cX10_sync 0 = .ok (.aload_n 0, 1) := by decide +kernel
theorem dX10_sync_1 : decode cX10_sync 1 = .ok (.getfield 12, 3) := by decide +kernel
theorem dX10_sync_4 : decode cX10_sync 4 = .ok (.invokevirtual 221, 3) := by decide +kernel
theorem dX10_sync_7 : decode cX10_sync 7 = .ok (.aload_n 0, 1) := by decide +kernel
theorem dX10_sync_8 : decode cX10_sync 8 = .ok (.iconst (-1), 1) := by decide +kernel
theorem dX10_sync_9 : decode cX10_sync 9 = .ok (.ldc_w 298, 3) := by decide +kernel
theorem dX10_sync_12 : decode cX10_sync 12 = .ok (.invokevirtual 299, 3) := by decide +kernel
theorem dX10_sync_15 : decode cX10_sync 15 = .ok (.istore_n 1, 1) := by decide +kernel
theorem dX10_sync_16 : decode cX10_sync 16 = .ok (.aload_n 0, 1) := by decide +kernel
theorem dX10_sync_17 : decode cX10_sync 17 = .ok (.getfield 37, 3) := by decide +kernel
theorem dX10_sync_20 : decode cX10_sync 20 = .ok (.invokevirtual 302, 3) := by decide +kernel
theorem dX10_sync_23 : decode cX10_sync 23 = .ok (.pop, 1) := by decide +kernel
theorem dX10_sync_24 : decode cX10_sync 24 = .ok (.aload_n 0, 1) := by decide +kernel
theorem dX10_sync_25 : decode cX10_sync 25 = .ok (.getfield 37, 3) := by decide +kernel
theorem dX10_sync_28 : decode cX10_sync 28 = .ok (.invokevirtual 305, 3) := by decide +kernel
theorem dX10_sync_31 : decode cX10_sync 31 = .ok (.iload_n 1, 1) := by decide +kernel
theorem dX10_sync_32 : decode cX10_sync 32 = .ok (.ireturn, 1) := by decide +kernel
set_option maxRecDepth 100000 in
set_option maxHeartbeats 1000000 in
theorem c_X10_sync {l : Launch} {D : va_G} {aC : Nat → ClassId} {b0 fu : Nat} {a0 : Nat} {σ τ : tM} {v : (Int32) ⊕ Unit} (hm : m_X10_sync b0 fu a0 σ = some (v, τ)) : tMt l D aC b0 yX10_sync (Cond.code yX10_sync cX10_sync 2 (some .int)) 11 199 [.ref (a0)] σ (rxI "java/lang/IllegalStateException" v) τ := by
  unfold m_X10_sync at hm
  obtain ⟨hg, hm⟩ := grw_e hm
  refine tMt_of (n := 0) rfl (Nat.le_of_ble_eq_true rfl) hg ?_
  intro p e s m below meth c C htab hin
  refine zx_lv [0] [(0, .ref (a0))] rfl ?_
  refine zx_aload_n C dX10_sync_0 0 rfl ?_
  obtain ⟨k1, i2, hm⟩ := ckO_e hm
  obtain ⟨a3, h4, hm⟩ := osm_e hm
  refine zx_get (j := 0) C tC_10 k1 i2 ⟨by decide, Or.inl W_2_213⟩ dX10_sync_1 (.ref a3) (rf_s h4) ?_
  obtain ⟨k5, i6, hm⟩ := ckO_e hm
  rcases clx_e hm with ⟨v7, ρ8, h9, hm⟩ | ⟨ρ8, h9, hm⟩
  · refine zx_callV (σ := σ) C [] tC_0 k5 i6 Y_X0_demandPower W_5_130 W_3_113 W_3_114 (c_X0_demandPower h9) (by decide) (by decide) rfl (Nat.le_of_ble_eq_true rfl) dX10_sync_4 rfl ?_
    refine zx_aload_n C dX10_sync_7 0 rfl ?_
    refine zx_iconst (v := (-1)) C dX10_sync_8 (by decide) ?_
    refine zx_ldcw (v := 1000000) C W_6_35 dX10_sync_9 ?_
    obtain ⟨k10, i11, hm⟩ := ckO_e hm
    rcases clx_e hm with ⟨v12, ρ13, h14, hm⟩ | ⟨ρ13, h14, hm⟩
    · refine zx_callV (σ := ρ8) C [.int ((-1)), .int (1000000)] tC_10 k10 i11 Y_X10_writeDirty W_6_36 W_6_38 Wp_45 (c_X10_writeDirty h14) (by decide) (by decide) rfl (Nat.le_of_ble_eq_true rfl) dX10_sync_12 rfl ?_
      refine zx_istore_n C [(1, .int (v12)), (0, .ref (a0))] dX10_sync_15 rfl (by decide) rfl ?_
      refine zx_aload_n C dX10_sync_16 1 rfl ?_
      obtain ⟨k15, i16, hm⟩ := ckO_e hm
      obtain ⟨a17, h18, hm⟩ := osm_e hm
      refine zx_get (j := 3) C tC_10 k15 i16 ⟨by decide, Or.inl W_2_216⟩ dX10_sync_17 (.ref a17) (rf_s h18) ?_
      obtain ⟨k19, i20, hm⟩ := ckO_e hm
      rcases clx_e hm with ⟨v21, ρ22, h23, hm⟩ | ⟨ρ22, h23, hm⟩
      · refine zx_callV (σ := ρ13) C [] tC_1 k19 i20 Y_X1_postGroup W_6_60 W_3_184 W_3_185 (c_X1_postGroup h23) (by decide) (by decide) rfl (Nat.le_of_ble_eq_true rfl) dX10_sync_20 rfl ?_
        refine zx_pop C dX10_sync_23 rfl ?_
        refine zx_aload_n C dX10_sync_24 1 rfl ?_
        obtain ⟨k24, i25, hm⟩ := ckO_e hm
        obtain ⟨a26, h27, hm⟩ := osm_e hm
        refine zx_get (j := 3) C tC_10 k24 i25 ⟨by decide, Or.inl W_2_216⟩ dX10_sync_25 (.ref a26) (rf_s h27) ?_
        obtain ⟨k28, i29, hm⟩ := ckO_e hm
        rcases clx_e hm with ⟨v30, ρ31, h32, hm⟩ | ⟨ρ31, h32, hm⟩
        · refine zx_callV (σ := ρ22) C [] tC_1 k28 i29 Y_X1_flush W_6_61 W_3_192 W_3_193 (c_X1_flush h32) (by decide) (by decide) rfl (Nat.le_of_ble_eq_true rfl) dX10_sync_28 rfl ?_
          refine zx_iload_n C dX10_sync_31 0 rfl ?_
          obtain ⟨rfl, rfl⟩ := ret_e hm
          exact zx_iret C rfl rfl rfl dX10_sync_32
        · cases hm
          exact zx_outV (σ := ρ22) C htab [] tC_1 k28 i29 Y_X1_flush W_6_61 W_3_192 W_3_193 (c_X1_flush h32) rfl (by decide) (by decide) rfl (Nat.le_of_ble_eq_true rfl) dX10_sync_28 rfl
      · cases hm
        exact zx_outV (σ := ρ13) C htab [] tC_1 k19 i20 Y_X1_postGroup W_6_60 W_3_184 W_3_185 (c_X1_postGroup h23) rfl (by decide) (by decide) rfl (Nat.le_of_ble_eq_true rfl) dX10_sync_20 rfl
    · cases hm
      exact zx_outV (σ := ρ8) C htab [.int ((-1)), .int (1000000)] tC_10 k10 i11 Y_X10_writeDirty W_6_36 W_6_38 Wp_45 (c_X10_writeDirty h14) rfl (by decide) (by decide) rfl (Nat.le_of_ble_eq_true rfl) dX10_sync_12 rfl
  · cases hm
    exact zx_outV (σ := σ) C htab [] tC_0 k5 i6 Y_X0_demandPower W_5_130 W_3_113 W_3_114 (c_X0_demandPower h9) rfl (by decide) (by decide) rfl (Nat.le_of_ble_eq_true rfl) dX10_sync_4 rfl
abbrev cX10_post : ByteArray := prog_1_method_38_code
def yX10_post : MethodName := ⟨"SyncTree", "post", "()I"⟩
theorem Y_X10_post : tY yX10_post cX10_post 1 (some .int) 0 := ⟨W_6_86, W_1_1, ⟨by decide +kernel, by decide +kernel⟩, by decide +kernel⟩
theorem dX10_post_0 : decode cX10_post 0 = .ok (.aload_n 0, 1) := by decide +kernel
theorem dX10_post_1 : decode cX10_post 1 = .ok (.getfield 12, 3) := by decide +kernel
theorem dX10_post_4 : decode cX10_post 4 = .ok (.invokevirtual 221, 3) := by decide +kernel
theorem dX10_post_7 : decode cX10_post 7 = .ok (.aload_n 0, 1) := by decide +kernel
theorem dX10_post_8 : decode cX10_post 8 = .ok (.getfield 37, 3) := by decide +kernel
theorem dX10_post_11 : decode cX10_post 11 = .ok (.invokevirtual 302, 3) := by decide +kernel
theorem dX10_post_14 : decode cX10_post 14 = .ok (.ireturn, 1) := by decide +kernel
set_option maxRecDepth 100000 in
set_option maxHeartbeats 1000000 in
theorem c_X10_post {l : Launch} {D : va_G} {aC : Nat → ClassId} {b0 fu : Nat} {a0 : Nat} {σ τ : tM} {v : (Int32) ⊕ Unit} (hm : m_X10_post b0 fu a0 σ = some (v, τ)) : tMt l D aC b0 yX10_post (Cond.code yX10_post cX10_post 1 (some .int)) 11 199 [.ref (a0)] σ (rxI "java/lang/IllegalStateException" v) τ := by
  unfold m_X10_post at hm
  obtain ⟨hg, hm⟩ := grw_e hm
  refine tMt_of (n := 0) rfl (Nat.le_of_ble_eq_true rfl) hg ?_
  intro p e s m below meth c C htab hin
  refine zx_lv [0] [(0, .ref (a0))] rfl ?_
  refine zx_aload_n C dX10_post_0 0 rfl ?_
  obtain ⟨k1, i2, hm⟩ := ckO_e hm
  obtain ⟨a3, h4, hm⟩ := osm_e hm
  refine zx_get (j := 0) C tC_10 k1 i2 ⟨by decide, Or.inl W_2_213⟩ dX10_post_1 (.ref a3) (rf_s h4) ?_
  obtain ⟨k5, i6, hm⟩ := ckO_e hm
  rcases clx_e hm with ⟨v7, ρ8, h9, hm⟩ | ⟨ρ8, h9, hm⟩
  · refine zx_callV (σ := σ) C [] tC_0 k5 i6 Y_X0_demandPower W_5_130 W_3_113 W_3_114 (c_X0_demandPower h9) (by decide) (by decide) rfl (Nat.le_of_ble_eq_true rfl) dX10_post_4 rfl ?_
    refine zx_aload_n C dX10_post_7 0 rfl ?_
    obtain ⟨k10, i11, hm⟩ := ckO_e hm
    obtain ⟨a12, h13, hm⟩ := osm_e hm
    refine zx_get (j := 3) C tC_10 k10 i11 ⟨by decide, Or.inl W_2_216⟩ dX10_post_8 (.ref a12) (rf_s h13) ?_
    obtain ⟨k14, i15, hm⟩ := ckO_e hm
    rcases clx_e hm with ⟨v16, ρ17, h18, hm⟩ | ⟨ρ17, h18, hm⟩
    · refine zx_callV (σ := ρ8) C [] tC_1 k14 i15 Y_X1_postGroup W_6_60 W_3_184 W_3_185 (c_X1_postGroup h18) (by decide) (by decide) rfl (Nat.le_of_ble_eq_true rfl) dX10_post_11 rfl ?_
      obtain ⟨rfl, rfl⟩ := ret_e hm
      exact zx_iret C rfl rfl rfl dX10_post_14
    · cases hm
      exact zx_outV (σ := ρ8) C htab [] tC_1 k14 i15 Y_X1_postGroup W_6_60 W_3_184 W_3_185 (c_X1_postGroup h18) rfl (by decide) (by decide) rfl (Nat.le_of_ble_eq_true rfl) dX10_post_11 rfl
  · cases hm
    exact zx_outV (σ := σ) C htab [] tC_0 k5 i6 Y_X0_demandPower W_5_130 W_3_113 W_3_114 (c_X0_demandPower h9) rfl (by decide) (by decide) rfl (Nat.le_of_ble_eq_true rfl) dX10_post_4 rfl
abbrev cX1_postAhead : ByteArray := prog_3_method_10_code
def yX1_postAhead : MethodName := ⟨"SyncTree$Journal", "postAhead", "()V"⟩
theorem Y_X1_postAhead : tY yX1_postAhead cX1_postAhead 1 none 0 := ⟨W_3_111, W_1_5, ⟨by decide +kernel, by decide +kernel⟩, by decide +kernel⟩
theorem dX1_postAhead_0 : decode cX1_postAhead 0 = .ok (.aload_n 0, 1) := by decide +kernel
theorem dX1_postAhead_1 : decode cX1_postAhead 1 = .ok (.getfield 21, 3) := by decide +kernel
theorem dX1_postAhead_4 : decode cX1_postAhead 4 = .ok (.invokevirtual 107, 3) := by decide +kernel
theorem dX1_postAhead_7 : decode cX1_postAhead 7 = .ok (.aload_n 0, 1) := by decide +kernel
theorem dX1_postAhead_8 : decode cX1_postAhead 8 = .ok (.getfield 25, 3) := by decide +kernel
theorem dX1_postAhead_11 : decode cX1_postAhead 11 = .ok (.invokevirtual 112, 3) := by decide +kernel
theorem dX1_postAhead_14 : decode cX1_postAhead 14 = .ok (.aload_n 0, 1) := by decide +kernel
theorem dX1_postAhead_15 : decode cX1_postAhead 15 = .ok (.getfield 46, 3) := by decide +kernel
theorem dX1_postAhead_18 : decode cX1_postAhead 18 = .ok (.iconst 2, 1) := by decide +kernel
theorem dX1_postAhead_19 : decode cX1_postAhead 19 = .ok (.idiv, 1) := by decide +kernel
theorem dX1_postAhead_20 : decode cX1_postAhead 20 = .ok (.if_icmp .le 8, 3) := by decide +kernel
theorem dX1_postAhead_23 : decode cX1_postAhead 23 = .ok (.aload_n 0, 1) := by decide +kernel
theorem dX1_postAhead_24 : decode cX1_postAhead 24 = .ok (.invokevirtual 116, 3) := by decide +kernel
theorem dX1_postAhead_27 : decode cX1_postAhead 27 = .ok (.pop, 1) := by decide +kernel
theorem dX1_postAhead_28 : decode cX1_postAhead 28 = .ok (.return_, 1) := by decide +kernel
set_option maxRecDepth 100000 in
set_option maxHeartbeats 1000000 in
theorem j_X1_postAhead_28 {p : Program} {l : Launch} {e : Env} {s : State} {m : MethodId} {args : Array Value} {below : List Frame} {meth : Method} {c : Code} {D : va_G} {aC : Nat → ClassId} {b0 fu : Nat} {σ0 τ : tM} {v : (Unit) ⊕ Unit}  (C : tCx p l s m args meth c yX1_postAhead.cls cX1_postAhead 1 none D aC b0 σ0) (htab : ∀ x ∈ c.exceptionTable.toList, False) (hin : meth.name = yX1_postAhead.name)   {σ : tM} (hm : J_X1_postAhead_28 b0 fu   σ = some (v, τ)) : tX p l e s m args below meth c 1 11 199 D aC b0 σ0 (rxV "java/lang/IllegalStateException" v) τ 28 [] [] σ := by
  unfold J_X1_postAhead_28 at hm
  obtain ⟨rfl, rfl⟩ := ret_e hm
  exact zx_vret C rfl rfl rfl dX1_postAhead_28
set_option maxRecDepth 100000 in
set_option maxHeartbeats 1000000 in
theorem c_X1_postAhead {l : Launch} {D : va_G} {aC : Nat → ClassId} {b0 fu : Nat} {a0 : Nat} {σ τ : tM} {v : (Unit) ⊕ Unit} (hm : m_X1_postAhead b0 fu a0 σ = some (v, τ)) : tMt l D aC b0 yX1_postAhead (Cond.code yX1_postAhead cX1_postAhead 1 none) 11 199 [.ref (a0)] σ (rxV "java/lang/IllegalStateException" v) τ := by
  unfold m_X1_postAhead at hm
  obtain ⟨hg, hm⟩ := grw_e hm
  refine tMt_of (n := 0) rfl (Nat.le_of_ble_eq_true rfl) hg ?_
  intro p e s m below meth c C htab hin
  refine zx_lv [0] [(0, .ref (a0))] rfl ?_
  refine zx_aload_n C dX1_postAhead_0 0 rfl ?_
  obtain ⟨k1, i2, hm⟩ := ckO_e hm
  obtain ⟨a3, h4, hm⟩ := osm_e hm
  refine zx_get (j := 0) C tC_1 k1 i2 ⟨by decide, Or.inl W_1_180⟩ dX1_postAhead_1 (.ref a3) (rf_s h4) ?_
  obtain ⟨k5, i6, hm⟩ := ckO_e hm
  rcases clx_e hm with ⟨v7, ρ8, h9, hm⟩ | ⟨ρ8, h9, hm⟩
  · refine zx_callV (σ := σ) C [] tC_0 k5 i6 Y_X0_demandPower W_3_112 W_3_113 W_3_114 (c_X0_demandPower h9) (by decide) (by decide) rfl (Nat.le_of_ble_eq_true rfl) dX1_postAhead_4 rfl ?_
    refine zx_aload_n C dX1_postAhead_7 0 rfl ?_
    obtain ⟨k10, i11, hm⟩ := ckO_e hm
    obtain ⟨a12, h13, hm⟩ := osm_e hm
    refine zx_get (j := 1) C tC_1 k10 i11 ⟨by decide, Or.inl W_1_181⟩ dX1_postAhead_8 (.ref a12) (rf_s h13) ?_
    obtain ⟨k14, i15, hm⟩ := ckO_e hm
    obtain ⟨v16, ρ17, h18, hm⟩ := cll_e hm
    refine zx_callV (σ := ρ8) C [] tC_5 k14 i15 Y_X5_groupSize W_3_182 W_3_93 W_3_94 (c_X5_groupSize h18) (by decide) (by decide) rfl (Nat.le_of_ble_eq_true rfl) dX1_postAhead_11 rfl ?_
    refine zx_aload_n C dX1_postAhead_14 0 rfl ?_
    obtain ⟨k19, i20, hm⟩ := ckO_e hm
    refine zx_get (j := 8) C tC_1 k19 i20 ⟨by decide, Or.inl W_1_188⟩ dX1_postAhead_15 (.int (tI (ρ17) (a0) 8)) rfl ?_
    refine zx_iconst (v := 2) C dX1_postAhead_18 (by decide) ?_
    refine zx_idiv C dX1_postAhead_19 (by decide) ?_
    refine zx_icmp_le C 28 dX1_postAhead_20 (by decide) (fun c21 => ?_) (fun c21 => ?_)
    · replace hm := ip_e hm c21
      exact zx_lv [] [] rfl (j_X1_postAhead_28 C htab hin    hm)
    · replace hm := in_e hm c21
      refine zx_aload_n C dX1_postAhead_23 0 rfl ?_
      rcases clx_e hm with ⟨v22, ρ23, h24, hm⟩ | ⟨ρ23, h24, hm⟩
      · refine zx_callV (σ := ρ17) C [] tC_1 k19 i20 Y_X1_postGroup W_3_183 W_3_184 W_3_185 (c_X1_postGroup h24) (by decide) (by decide) rfl (Nat.le_of_ble_eq_true rfl) dX1_postAhead_24 rfl ?_
        refine zx_pop C dX1_postAhead_27 rfl ?_
        exact zx_lv [] [] rfl (j_X1_postAhead_28 C htab hin    hm)
      · cases hm
        exact zx_outV (σ := ρ17) C htab [] tC_1 k19 i20 Y_X1_postGroup W_3_183 W_3_184 W_3_185 (c_X1_postGroup h24) rfl (by decide) (by decide) rfl (Nat.le_of_ble_eq_true rfl) dX1_postAhead_24 rfl
  · cases hm
    exact zx_outV (σ := σ) C htab [] tC_0 k5 i6 Y_X0_demandPower W_3_112 W_3_113 W_3_114 (c_X0_demandPower h9) rfl (by decide) (by decide) rfl (Nat.le_of_ble_eq_true rfl) dX1_postAhead_4 rfl
abbrev cX2_loadAll : ByteArray := prog_4_method_2_code
def yX2_loadAll : MethodName := ⟨"SyncTree$Loader", "loadAll", "()V"⟩
theorem Y_X2_loadAll : tY yX2_loadAll cX2_loadAll 3 none 0 := ⟨W_6_149, W_1_6, ⟨by decide +kernel, by decide +kernel⟩, by decide +kernel⟩
theorem dX2_loadAll_0 : decode cX2_loadAll 0 = .ok (.iconst 1, 1) := by decide +kernel
theorem dX2_loadAll_1 : decode cX2_loadAll 1 = .ok (.istore_n 1, 1) := by decide +kernel
theorem dX2_loadAll_2 : decode cX2_loadAll 2 = .ok (.iload_n 1, 1) := by decide +kernel
theorem dX2_loadAll_3 : decode cX2_loadAll 3 = .ok (.bipush 34, 2) := by decide +kernel
theorem dX2_loadAll_5 : decode cX2_loadAll 5 = .ok (.if_icmp .ge 25, 3) := by decide +kernel
theorem dX2_loadAll_8 : decode cX2_loadAll 8 = .ok (.aload_n 0, 1) := by decide +kernel
theorem dX2_loadAll_9 : decode cX2_loadAll 9 = .ok (.getfield 15, 3) := by decide +kernel
theorem dX2_loadAll_12 : decode cX2_loadAll 12 = .ok (.iload_n 1, 1) := by decide +kernel
theorem dX2_loadAll_13 : decode cX2_loadAll 13 = .ok (.aload_n 0, 1) := by decide +kernel
theorem dX2_loadAll_14 : decode cX2_loadAll 14 = .ok (.getfield 23, 3) := by decide +kernel
theorem dX2_loadAll_17 : decode cX2_loadAll 17 = .ok (.iload_n 1, 1) := by decide +kernel
theorem dX2_loadAll_18 : decode cX2_loadAll 18 = .ok (.invokevirtual 27, 3) := by decide +kernel
theorem dX2_loadAll_21 : decode cX2_loadAll 21 = .ok (.invokevirtual 33, 3) := by decide +kernel
theorem dX2_loadAll_24 : decode cX2_loadAll 24 = .ok (.iinc 1 1, 3) := by decide +kernel
theorem dX2_loadAll_27 : decode cX2_loadAll 27 = .ok (.goto (-25), 3) := by decide +kernel
theorem dX2_loadAll_30 : decode cX2_loadAll 30 = .ok (.aload_n 0, 1) := by decide +kernel
theorem dX2_loadAll_31 : decode cX2_loadAll 31 = .ok (.getfield 15, 3) := by decide +kernel
theorem dX2_loadAll_34 : decode cX2_loadAll 34 = .ok (.invokevirtual 39, 3) := by decide +kernel
theorem dX2_loadAll_37 : decode cX2_loadAll 37 = .ok (.iconst 0, 1) := by decide +kernel
theorem dX2_loadAll_38 : decode cX2_loadAll 38 = .ok (.istore_n 1, 1) := by decide +kernel
theorem dX2_loadAll_39 : decode cX2_loadAll 39 = .ok (.iload_n 1, 1) := by decide +kernel
theorem dX2_loadAll_40 : decode cX2_loadAll 40 = .ok (.bipush 64, 2) := by decide +kernel
theorem dX2_loadAll_42 : decode cX2_loadAll 42 = .ok (.if_icmp .ge 33, 3) := by decide +kernel
theorem dX2_loadAll_45 : decode cX2_loadAll 45 = .ok (.aload_n 0, 1) := by decide +kernel
theorem dX2_loadAll_46 : decode cX2_loadAll 46 = .ok (.getfield 19, 3) := by decide +kernel
theorem dX2_loadAll_49 : decode cX2_loadAll 49 = .ok (.iload_n 1, 1) := by decide +kernel
theorem dX2_loadAll_50 : decode cX2_loadAll 50 = .ok (.invokevirtual 42, 3) := by decide +kernel
theorem dX2_loadAll_53 : decode cX2_loadAll 53 = .ok (.istore_n 2, 1) := by decide +kernel
theorem dX2_loadAll_54 : decode cX2_loadAll 54 = .ok (.iload_n 2, 1) := by decide +kernel
theorem dX2_loadAll_55 : decode cX2_loadAll 55 = .ok (.iconst 1, 1) := by decide +kernel
theorem dX2_loadAll_56 : decode cX2_loadAll 56 = .ok (.if_icmp .eq 8, 3) := by decide +kernel
theorem dX2_loadAll_59 : decode cX2_loadAll 59 = .ok (.iload_n 2, 1) := by decide +kernel
theorem dX2_loadAll_60 : decode cX2_loadAll 60 = .ok (.iconst 2, 1) := by decide +kernel
theorem dX2_loadAll_61 : decode cX2_loadAll 61 = .ok (.if_icmp .ne 8, 3) := by decide +kernel
theorem dX2_loadAll_64 : decode cX2_loadAll 64 = .ok (.aload_n 0, 1) := by decide +kernel
theorem dX2_loadAll_65 : decode cX2_loadAll 65 = .ok (.iload_n 1, 1) := by decide +kernel
theorem dX2_loadAll_66 : decode cX2_loadAll 66 = .ok (.invokevirtual 48, 3) := by decide +kernel
theorem dX2_loadAll_69 : decode cX2_loadAll 69 = .ok (.iinc 1 1, 3) := by decide +kernel
theorem dX2_loadAll_72 : decode cX2_loadAll 72 = .ok (.goto (-33), 3) := by decide +kernel
theorem dX2_loadAll_75 : decode cX2_loadAll 75 = .ok (.return_, 1) := by decide +kernel
set_option maxRecDepth 100000 in
set_option maxHeartbeats 1000000 in
theorem j_X2_loadAll_69 {p : Program} {l : Launch} {e : Env} {s : State} {m : MethodId} {args : Array Value} {below : List Frame} {meth : Method} {c : Code} {D : va_G} {aC : Nat → ClassId} {b0 fu : Nat} {σ0 τ : tM} {v : Unit} {rc39 : Nat → Int32 → tM → Option ((Unit) × tM)} (C : tCx p l s m args meth c yX2_loadAll.cls cX2_loadAll 3 none D aC b0 σ0) (htab : ∀ x ∈ c.exceptionTable.toList, False) (hin : meth.name = yX2_loadAll.name) (hrc39 : ∀ (x0 : Nat) (x1 : Int32) (ρ : tM), rc39 x0 x1 ρ = some (v, τ) → tX p l e s m args below meth c 3 6 146 D aC b0 σ0 (.inl none) τ 39 [(0, .ref (x0)), (1, .int (x1))] [] ρ) {x0 : Nat} {x1 : Int32} {σ : tM} (hm : J_X2_loadAll_69 b0 fu rc39 x0 x1 σ = some (v, τ)) : tX p l e s m args below meth c 3 6 146 D aC b0 σ0 (.inl none) τ 69 [(0, .ref (x0)), (1, .int (x1))] [] σ := by
  unfold J_X2_loadAll_69 at hm
  obtain ⟨y27, hy27⟩ : ∃ z : Int32, z = (x1) + Int32.ofInt 1 := ⟨_, rfl⟩
  replace hm := ltb_e hm hy27
  refine zx_iinc C [(1, .int (y27)), (0, .ref (x0))] dX2_loadAll_69 1 rfl hy27.symm (by decide) rfl ?_
  refine zx_goto C 39 dX2_loadAll_72 (by decide) ?_
  exact zx_lv [1, 0] [(0, .ref (x0)), (1, .int (y27))] rfl (hrc39 _ _ _ hm)
set_option maxRecDepth 100000 in
set_option maxHeartbeats 1000000 in
theorem j_X2_loadAll_64 {p : Program} {l : Launch} {e : Env} {s : State} {m : MethodId} {args : Array Value} {below : List Frame} {meth : Method} {c : Code} {D : va_G} {aC : Nat → ClassId} {b0 fu : Nat} {σ0 τ : tM} {v : Unit} {rc39 : Nat → Int32 → tM → Option ((Unit) × tM)} (C : tCx p l s m args meth c yX2_loadAll.cls cX2_loadAll 3 none D aC b0 σ0) (htab : ∀ x ∈ c.exceptionTable.toList, False) (hin : meth.name = yX2_loadAll.name) (hrc39 : ∀ (x0 : Nat) (x1 : Int32) (ρ : tM), rc39 x0 x1 ρ = some (v, τ) → tX p l e s m args below meth c 3 6 146 D aC b0 σ0 (.inl none) τ 39 [(0, .ref (x0)), (1, .int (x1))] [] ρ) {x0 : Nat} {x1 : Int32} {σ : tM} (hm : J_X2_loadAll_64 b0 fu rc39 x0 x1 σ = some (v, τ)) : tX p l e s m args below meth c 3 6 146 D aC b0 σ0 (.inl none) τ 64 [(0, .ref (x0)), (1, .int (x1))] [] σ := by
  unfold J_X2_loadAll_64 at hm
  refine zx_aload_n C dX2_loadAll_64 0 rfl ?_
  refine zx_iload_n C dX2_loadAll_65 1 rfl ?_
  obtain ⟨k22, i23, hm⟩ := ckO_e hm
  obtain ⟨v24, ρ25, h26, hm⟩ := cll_e hm
  refine zx_callV (σ := σ) C [.int (x1)] tC_2 k22 i23 Y_X2_loadNode W_6_157 W_6_159 Wp_50 (c_X2_loadNode h26) (by decide) (by decide) rfl (Nat.le_of_ble_eq_true rfl) dX2_loadAll_66 rfl ?_
  exact zx_lv [0, 1] [(0, .ref (x0)), (1, .int (x1))] rfl (j_X2_loadAll_69 C htab hin hrc39   hm)
set_option maxRecDepth 100000 in
set_option maxHeartbeats 1000000 in
theorem l_X2_loadAll_39 {p : Program} {l : Launch} {e : Env} {s : State} {m : MethodId} {args : Array Value} {below : List Frame} {meth : Method} {c : Code} {D : va_G} {aC : Nat → ClassId} {b0 fu : Nat} {σ0 τ : tM} {v : Unit}  (C : tCx p l s m args meth c yX2_loadAll.cls cX2_loadAll 3 none D aC b0 σ0) (htab : ∀ x ∈ c.exceptionTable.toList, False) (hin : meth.name = yX2_loadAll.name)  : ∀ (n : Nat) (x0 : Nat) (x1 : Int32) (σ : tM), L_X2_loadAll_39 b0 fu  n x0 x1 σ = some (v, τ) → tX p l e s m args below meth c 3 6 146 D aC b0 σ0 (.inl none) τ 39 [(0, .ref (x0)), (1, .int (x1))] [] σ := by
  intro n
  induction n with
  | zero => intro x0 x1 σ hm; unfold L_X2_loadAll_39 at hm; cases hm
  | succ n ih =>
    intro x0 x1 σ hm
    unfold L_X2_loadAll_39 at hm
    obtain ⟨rc39, hrc⟩ : ∃ z, z = L_X2_loadAll_39 b0 fu  n := ⟨_, rfl⟩
    replace hm := ltb_e hm hrc
    rw [← hrc] at ih
    have hrc39 := ih
    clear ih hrc
    refine zx_iload_n C dX2_loadAll_39 1 rfl ?_
    refine zx_bipush (v := 64) C dX2_loadAll_40 (by decide) ?_
    refine zx_icmp_ge C 75 dX2_loadAll_42 (by decide) (fun c11 => ?_) (fun c11 => ?_)
    · replace hm := ip_e hm c11
      obtain ⟨rfl, rfl⟩ := ret_e hm
      exact zx_vret C rfl rfl rfl dX2_loadAll_75
    · replace hm := in_e hm c11
      refine zx_aload_n C dX2_loadAll_45 0 rfl ?_
      obtain ⟨k12, i13, hm⟩ := ckO_e hm
      obtain ⟨a14, h15, hm⟩ := osm_e hm
      refine zx_get (j := 2) C tC_2 k12 i13 ⟨by decide, Or.inl W_2_3⟩ dX2_loadAll_46 (.ref a14) (rf_s h15) ?_
      refine zx_iload_n C dX2_loadAll_49 1 rfl ?_
      obtain ⟨k16, i17, hm⟩ := ckO_e hm
      obtain ⟨v18, ρ19, h20, hm⟩ := cll_e hm
      refine zx_callV (σ := σ) C [.int (x1)] tC_8 k16 i17 Y_X8_kind W_6_156 W_3_80 W_3_81 (c_X8_kind h20) (by decide) (by decide) rfl (Nat.le_of_ble_eq_true rfl) dX2_loadAll_50 rfl ?_
      refine zx_istore_n C [(2, .int (v18)), (0, .ref (x0)), (1, .int (x1))] dX2_loadAll_53 rfl (by decide) rfl ?_
      refine zx_iload_n C dX2_loadAll_54 0 rfl ?_
      refine zx_iconst (v := 1) C dX2_loadAll_55 (by decide) ?_
      refine zx_icmp_eq C 64 dX2_loadAll_56 (by decide) (fun c21 => ?_) (fun c21 => ?_)
      · replace hm := ip_e hm c21
        exact zx_lv [1, 2] [(0, .ref (x0)), (1, .int (x1))] rfl (j_X2_loadAll_64 C htab hin hrc39   hm)
      · replace hm := in_e hm c21
        refine zx_iload_n C dX2_loadAll_59 0 rfl ?_
        refine zx_iconst (v := 2) C dX2_loadAll_60 (by decide) ?_
        refine zx_icmp_ne C 69 dX2_loadAll_61 (by decide) (fun c28 => ?_) (fun c28 => ?_)
        · replace hm := in_e hm c28
          exact zx_lv [1, 2] [(0, .ref (x0)), (1, .int (x1))] rfl (j_X2_loadAll_69 C htab hin hrc39   hm)
        · replace hm := ip_e hm c28
          exact zx_lv [1, 2] [(0, .ref (x0)), (1, .int (x1))] rfl (j_X2_loadAll_64 C htab hin hrc39   hm)
set_option maxRecDepth 100000 in
set_option maxHeartbeats 1000000 in
theorem l_X2_loadAll_2 {p : Program} {l : Launch} {e : Env} {s : State} {m : MethodId} {args : Array Value} {below : List Frame} {meth : Method} {c : Code} {D : va_G} {aC : Nat → ClassId} {b0 fu : Nat} {σ0 τ : tM} {v : Unit}  (C : tCx p l s m args meth c yX2_loadAll.cls cX2_loadAll 3 none D aC b0 σ0) (htab : ∀ x ∈ c.exceptionTable.toList, False) (hin : meth.name = yX2_loadAll.name)  : ∀ (n : Nat) (x0 : Nat) (x1 : Int32) (σ : tM), L_X2_loadAll_2 b0 fu  n x0 x1 σ = some (v, τ) → tX p l e s m args below meth c 3 6 146 D aC b0 σ0 (.inl none) τ 2 [(0, .ref (x0)), (1, .int (x1))] [] σ := by
  intro n
  induction n with
  | zero => intro x0 x1 σ hm; unfold L_X2_loadAll_2 at hm; cases hm
  | succ n ih =>
    intro x0 x1 σ hm
    unfold L_X2_loadAll_2 at hm
    obtain ⟨rc2, hrc⟩ : ∃ z, z = L_X2_loadAll_2 b0 fu  n := ⟨_, rfl⟩
    replace hm := ltb_e hm hrc
    rw [← hrc] at ih
    have hrc2 := ih
    clear ih hrc
    refine zx_iload_n C dX2_loadAll_2 1 rfl ?_
    refine zx_bipush (v := 34) C dX2_loadAll_3 (by decide) ?_
    refine zx_icmp_ge C 30 dX2_loadAll_5 (by decide) (fun c1 => ?_) (fun c1 => ?_)
    · replace hm := ip_e hm c1
      refine zx_aload_n C dX2_loadAll_30 0 rfl ?_
      obtain ⟨k2, i3, hm⟩ := ckO_e hm
      obtain ⟨a4, h5, hm⟩ := osm_e hm
      refine zx_get (j := 1) C tC_2 k2 i3 ⟨by decide, Or.inl W_2_2⟩ dX2_loadAll_31 (.ref a4) (rf_s h5) ?_
      obtain ⟨k6, i7, hm⟩ := ckO_e hm
      obtain ⟨v8, ρ9, h10, hm⟩ := cll_e hm
      refine zx_callV (σ := σ) C [] tC_5 k6 i7 Y_X5_readMap W_6_155 W_2_137 W_2_138 (c_X5_readMap h10) (by decide) (by decide) rfl (Nat.le_of_ble_eq_true rfl) dX2_loadAll_34 rfl ?_
      refine zx_iconst (v := 0) C dX2_loadAll_37 (by decide) ?_
      refine zx_istore_n C [(1, .int (0)), (0, .ref (x0))] dX2_loadAll_38 rfl (by decide) rfl ?_
      exact zx_lv [1, 0] [(0, .ref (x0)), (1, .int (0))] rfl (l_X2_loadAll_39 C htab hin  _ _ _ _ hm)
    · replace hm := in_e hm c1
      refine zx_aload_n C dX2_loadAll_8 0 rfl ?_
      obtain ⟨k29, i30, hm⟩ := ckO_e hm
      obtain ⟨a31, h32, hm⟩ := osm_e hm
      refine zx_get (j := 1) C tC_2 k29 i30 ⟨by decide, Or.inl W_2_2⟩ dX2_loadAll_9 (.ref a31) (rf_s h32) ?_
      refine zx_iload_n C dX2_loadAll_12 1 rfl ?_
      refine zx_aload_n C dX2_loadAll_13 0 rfl ?_
      obtain ⟨a33, h34, hm⟩ := osm_e hm
      refine zx_get (j := 3) C tC_2 k29 i30 ⟨by decide, Or.inl W_2_4⟩ dX2_loadAll_14 (.ref a33) (rf_s h34) ?_
      refine zx_iload_n C dX2_loadAll_17 1 rfl ?_
      obtain ⟨k35, i36, hm⟩ := ckO_e hm
      obtain ⟨v37, ρ38, h39, hm⟩ := cll_e hm
      rcases omt_e hm with ⟨a40, h41, hm⟩ | ⟨h41, hm⟩
      · subst h41
        refine zx_callV (σ := σ) C [.int (x1)] tC_1 k35 i36 Y_X1_baseOf W_6_150 W_6_151 W_6_152 (c_X1_baseOf h39) (by decide) (by decide) rfl (Nat.le_of_ble_eq_true rfl) dX2_loadAll_18 rfl ?_
        obtain ⟨k42, i43, hm⟩ := ckO_e hm
        obtain ⟨v44, ρ45, h46, hm⟩ := cll_e hm
        refine zx_callV (σ := ρ38) C [.int (x1), va_rf (some (a40))] tC_5 k42 i43 Y_X5_load W_6_154 W_2_130 W_2_131 (c_X5_load h46) (by decide) (by decide) rfl (Nat.le_of_ble_eq_true rfl) dX2_loadAll_21 rfl ?_
        obtain ⟨y47, hy47⟩ : ∃ z : Int32, z = (x1) + Int32.ofInt 1 := ⟨_, rfl⟩
        replace hm := ltb_e hm hy47
        refine zx_iinc C [(1, .int (y47)), (0, .ref (x0))] dX2_loadAll_24 1 rfl hy47.symm (by decide) rfl ?_
        refine zx_goto C 2 dX2_loadAll_27 (by decide) ?_
        exact zx_lv [1, 0] [(0, .ref (x0)), (1, .int (y47))] rfl (hrc2 _ _ _ hm)
      · subst h41
        refine zx_callV (σ := σ) C [.int (x1)] tC_1 k35 i36 Y_X1_baseOf W_6_150 W_6_151 W_6_152 (c_X1_baseOf h39) (by decide) (by decide) rfl (Nat.le_of_ble_eq_true rfl) dX2_loadAll_18 rfl ?_
        obtain ⟨k48, i49, hm⟩ := ckO_e hm
        obtain ⟨v50, ρ51, h52, hm⟩ := cll_e hm
        refine zx_callV (σ := ρ38) C [.int (x1), va_rf (none)] tC_5 k48 i49 Y_X5_load W_6_154 W_2_130 W_2_131 (c_X5_load h52) (by decide) (by decide) rfl (Nat.le_of_ble_eq_true rfl) dX2_loadAll_21 rfl ?_
        obtain ⟨y53, hy53⟩ : ∃ z : Int32, z = (x1) + Int32.ofInt 1 := ⟨_, rfl⟩
        replace hm := ltb_e hm hy53
        refine zx_iinc C [(1, .int (y53)), (0, .ref (x0))] dX2_loadAll_24 1 rfl hy53.symm (by decide) rfl ?_
        refine zx_goto C 2 dX2_loadAll_27 (by decide) ?_
        exact zx_lv [1, 0] [(0, .ref (x0)), (1, .int (y53))] rfl (hrc2 _ _ _ hm)
set_option maxRecDepth 100000 in
set_option maxHeartbeats 1000000 in
theorem c_X2_loadAll {l : Launch} {D : va_G} {aC : Nat → ClassId} {b0 fu : Nat} {a0 : Nat} {σ τ : tM} {v : Unit} (hm : m_X2_loadAll b0 fu a0 σ = some (v, τ)) : tMt l D aC b0 yX2_loadAll (Cond.code yX2_loadAll cX2_loadAll 3 none) 6 146 [.ref (a0)] σ (.inl none) τ := by
  unfold m_X2_loadAll at hm
  obtain ⟨hg, hm⟩ := grw_e hm
  refine tMt_of (n := 0) rfl (Nat.le_of_ble_eq_true rfl) hg ?_
  intro p e s m below meth c C htab hin
  refine zx_lv [0] [(0, .ref (a0))] rfl ?_
  refine zx_iconst (v := 1) C dX2_loadAll_0 (by decide) ?_
  refine zx_istore_n C [(1, .int (1)), (0, .ref (a0))] dX2_loadAll_1 rfl (by decide) rfl ?_
  exact zx_lv [1, 0] [(0, .ref (a0)), (1, .int (1))] rfl (l_X2_loadAll_2 C htab hin  _ _ _ _ hm)
abbrev cX10_create : ByteArray := prog_1_method_6_code
def yX10_create : MethodName := ⟨"SyncTree", "create", "()I"⟩
theorem Y_X10_create : tY yX10_create cX10_create 1 (some .int) 0 := ⟨W_3_107, W_1_1, ⟨by decide +kernel, by decide +kernel⟩, by decide +kernel⟩
theorem dX10_create_0 : decode cX10_create 0 = .ok (.aload_n 0, 1) := by decide +kernel
theorem dX10_create_1 : decode cX10_create 1 = .ok (.getfield 37, 3) := by decide +kernel
theorem dX10_create_4 : decode cX10_create 4 = .ok (.invokevirtual 127, 3) := by decide +kernel
theorem dX10_create_7 : decode cX10_create 7 = .ok (.aload_n 0, 1) := by decide +kernel
theorem dX10_create_8 : decode cX10_create 8 = .ok (.iconst 1, 1) := by decide +kernel
theorem dX10_create_9 : decode cX10_create 9 = .ok (.aload_n 0, 1) := by decide +kernel
theorem dX10_create_10 : decode cX10_create 10 = .ok (.invokevirtual 130, 3) := by decide +kernel
theorem dX10_create_13 : decode cX10_create 13 = .ok (.invokevirtual 134, 3) := by decide +kernel
theorem dX10_create_16 : decode cX10_create 16 = .ok (.ireturn, 1) := by decide +kernel
set_option maxRecDepth 100000 in
set_option maxHeartbeats 1000000 in
theorem c_X10_create {l : Launch} {D : va_G} {aC : Nat → ClassId} {b0 fu : Nat} {a0 : Nat} {σ τ : tM} {v : (Int32) ⊕ Unit} (hm : m_X10_create b0 fu a0 σ = some (v, τ)) : tMt l D aC b0 yX10_create (Cond.code yX10_create cX10_create 1 (some .int)) 12 219 [.ref (a0)] σ (rxI "java/lang/IllegalStateException" v) τ := by
  unfold m_X10_create at hm
  obtain ⟨hg, hm⟩ := grw_e hm
  refine tMt_of (n := 0) rfl (Nat.le_of_ble_eq_true rfl) hg ?_
  intro p e s m below meth c C htab hin
  refine zx_lv [0] [(0, .ref (a0))] rfl ?_
  refine zx_aload_n C dX10_create_0 0 rfl ?_
  obtain ⟨k1, i2, hm⟩ := ckO_e hm
  obtain ⟨a3, h4, hm⟩ := osm_e hm
  refine zx_get (j := 3) C tC_10 k1 i2 ⟨by decide, Or.inl W_2_216⟩ dX10_create_1 (.ref a3) (rf_s h4) ?_
  obtain ⟨k5, i6, hm⟩ := ckO_e hm
  rcases clx_e hm with ⟨v7, ρ8, h9, hm⟩ | ⟨ρ8, h9, hm⟩
  · refine zx_callV (σ := σ) C [] tC_1 k5 i6 Y_X1_postAhead W_3_108 W_3_109 W_3_110 (c_X1_postAhead h9) (by decide) (by decide) rfl (Nat.le_of_ble_eq_true rfl) dX10_create_4 rfl ?_
    refine zx_aload_n C dX10_create_7 0 rfl ?_
    refine zx_iconst (v := 1) C dX10_create_8 (by decide) ?_
    refine zx_aload_n C dX10_create_9 0 rfl ?_
    obtain ⟨k10, i11, hm⟩ := ckO_e hm
    obtain ⟨v12, ρ13, h14, hm⟩ := cll_e hm
    refine zx_callV (σ := ρ8) C [] tC_10 k10 i11 Y_X10_placeForNew W_4_65 W_4_67 Wp_20 (c_X10_placeForNew h14) (by decide) (by decide) rfl (Nat.le_of_ble_eq_true rfl) dX10_create_10 rfl ?_
    obtain ⟨k15, i16, hm⟩ := ckO_e hm
    obtain ⟨v17, ρ18, h19, hm⟩ := cll_e hm
    refine zx_callV (σ := ρ13) C [.int (1), .int (v12)] tC_10 k15 i16 Y_X10_make W_4_150 W_4_152 Wp_27 (c_X10_make h19) (by decide) (by decide) rfl (Nat.le_of_ble_eq_true rfl) dX10_create_13 rfl ?_
    obtain ⟨rfl, rfl⟩ := ret_e hm
    exact zx_iret C rfl rfl rfl dX10_create_16
  · cases hm
    exact zx_outV (σ := σ) C htab [] tC_1 k5 i6 Y_X1_postAhead W_3_108 W_3_109 W_3_110 (c_X1_postAhead h9) rfl (by decide) (by decide) rfl (Nat.le_of_ble_eq_true rfl) dX10_create_4 rfl
abbrev cX10_mkdir : ByteArray := prog_1_method_7_code
def yX10_mkdir : MethodName := ⟨"SyncTree", "mkdir", "()I"⟩
theorem Y_X10_mkdir : tY yX10_mkdir cX10_mkdir 1 (some .int) 0 := ⟨W_4_235, W_1_1, ⟨by decide +kernel, by decide +kernel⟩, by decide +kernel⟩
theorem dX10_mkdir_0 : decode cX10_mkdir 0 = .ok (.aload_n 0, 1) := by decide +kernel
theorem dX10_mkdir_1 : decode cX10_mkdir 1 = .ok (.getfield 37, 3) := by decide +kernel
theorem dX10_mkdir_4 : decode cX10_mkdir 4 = .ok (.invokevirtual 127, 3) := by decide +kernel
theorem dX10_mkdir_7 : decode cX10_mkdir 7 = .ok (.aload_n 0, 1) := by decide +kernel
theorem dX10_mkdir_8 : decode cX10_mkdir 8 = .ok (.iconst 2, 1) := by decide +kernel
theorem dX10_mkdir_9 : decode cX10_mkdir 9 = .ok (.aload_n 0, 1) := by decide +kernel
theorem dX10_mkdir_10 : decode cX10_mkdir 10 = .ok (.invokevirtual 130, 3) := by decide +kernel
theorem dX10_mkdir_13 : decode cX10_mkdir 13 = .ok (.invokevirtual 134, 3) := by decide +kernel
theorem dX10_mkdir_16 : decode cX10_mkdir 16 = .ok (.ireturn, 1) := by decide +kernel
set_option maxRecDepth 100000 in
set_option maxHeartbeats 1000000 in
theorem c_X10_mkdir {l : Launch} {D : va_G} {aC : Nat → ClassId} {b0 fu : Nat} {a0 : Nat} {σ τ : tM} {v : (Int32) ⊕ Unit} (hm : m_X10_mkdir b0 fu a0 σ = some (v, τ)) : tMt l D aC b0 yX10_mkdir (Cond.code yX10_mkdir cX10_mkdir 1 (some .int)) 12 219 [.ref (a0)] σ (rxI "java/lang/IllegalStateException" v) τ := by
  unfold m_X10_mkdir at hm
  obtain ⟨hg, hm⟩ := grw_e hm
  refine tMt_of (n := 0) rfl (Nat.le_of_ble_eq_true rfl) hg ?_
  intro p e s m below meth c C htab hin
  refine zx_lv [0] [(0, .ref (a0))] rfl ?_
  refine zx_aload_n C dX10_mkdir_0 0 rfl ?_
  obtain ⟨k1, i2, hm⟩ := ckO_e hm
  obtain ⟨a3, h4, hm⟩ := osm_e hm
  refine zx_get (j := 3) C tC_10 k1 i2 ⟨by decide, Or.inl W_2_216⟩ dX10_mkdir_1 (.ref a3) (rf_s h4) ?_
  obtain ⟨k5, i6, hm⟩ := ckO_e hm
  rcases clx_e hm with ⟨v7, ρ8, h9, hm⟩ | ⟨ρ8, h9, hm⟩
  · refine zx_callV (σ := σ) C [] tC_1 k5 i6 Y_X1_postAhead W_3_108 W_3_109 W_3_110 (c_X1_postAhead h9) (by decide) (by decide) rfl (Nat.le_of_ble_eq_true rfl) dX10_mkdir_4 rfl ?_
    refine zx_aload_n C dX10_mkdir_7 0 rfl ?_
    refine zx_iconst (v := 2) C dX10_mkdir_8 (by decide) ?_
    refine zx_aload_n C dX10_mkdir_9 0 rfl ?_
    obtain ⟨k10, i11, hm⟩ := ckO_e hm
    obtain ⟨v12, ρ13, h14, hm⟩ := cll_e hm
    refine zx_callV (σ := ρ8) C [] tC_10 k10 i11 Y_X10_placeForNew W_4_65 W_4_67 Wp_20 (c_X10_placeForNew h14) (by decide) (by decide) rfl (Nat.le_of_ble_eq_true rfl) dX10_mkdir_10 rfl ?_
    obtain ⟨k15, i16, hm⟩ := ckO_e hm
    obtain ⟨v17, ρ18, h19, hm⟩ := cll_e hm
    refine zx_callV (σ := ρ13) C [.int (2), .int (v12)] tC_10 k15 i16 Y_X10_make W_4_150 W_4_152 Wp_27 (c_X10_make h19) (by decide) (by decide) rfl (Nat.le_of_ble_eq_true rfl) dX10_mkdir_13 rfl ?_
    obtain ⟨rfl, rfl⟩ := ret_e hm
    exact zx_iret C rfl rfl rfl dX10_mkdir_16
  · cases hm
    exact zx_outV (σ := σ) C htab [] tC_1 k5 i6 Y_X1_postAhead W_3_108 W_3_109 W_3_110 (c_X1_postAhead h9) rfl (by decide) (by decide) rfl (Nat.le_of_ble_eq_true rfl) dX10_mkdir_4 rfl
abbrev cX10_symlink : ByteArray := prog_1_method_8_code
def yX10_symlink : MethodName := ⟨"SyncTree", "symlink", "()I"⟩
theorem Y_X10_symlink : tY yX10_symlink cX10_symlink 1 (some .int) 0 := ⟨W_5_2, W_1_1, ⟨by decide +kernel, by decide +kernel⟩, by decide +kernel⟩
theorem dX10_symlink_0 : decode cX10_symlink 0 = .ok (.aload_n 0, 1) := by decide +kernel
theorem dX10_symlink_1 : decode cX10_symlink 1 = .ok (.getfield 37, 3) := by decide +kernel
theorem dX10_symlink_4 : decode cX10_symlink 4 = .ok (.invokevirtual 127, 3) := by decide +kernel
theorem dX10_symlink_7 : decode cX10_symlink 7 = .ok (.aload_n 0, 1) := by decide +kernel
theorem dX10_symlink_8 : decode cX10_symlink 8 = .ok (.getfield 73, 3) := by decide +kernel
theorem dX10_symlink_11 : decode cX10_symlink 11 = .ok (.getfield 138, 3) := by decide +kernel
theorem dX10_symlink_14 : decode cX10_symlink 14 = .ok (.iconst 1, 1) := by decide +kernel
theorem dX10_symlink_15 : decode cX10_symlink 15 = .ok (.if_icmp .lt 15, 3) := by decide +kernel
theorem dX10_symlink_18 : decode cX10_symlink 18 = .ok (.aload_n 0, 1) := by decide +kernel
theorem dX10_symlink_19 : decode cX10_symlink 19 = .ok (.getfield 73, 3) := by decide +kernel
theorem dX10_symlink_22 : decode cX10_symlink 22 = .ok (.getfield 138, 3) := by decide +kernel
theorem dX10_symlink_25 : decode cX10_symlink 25 = .ok (.bipush 80, 2) := by decide +kernel
theorem dX10_symlink_27 : decode cX10_symlink 27 = .ok (.if_icmp .le 6, 3) := by decide +kernel
theorem dX10_symlink_30 : decode cX10_symlink 30 = .ok (.bipush (-9), 2) := by decide +kernel
theorem dX10_symlink_32 : decode cX10_symlink 32 = .ok (.ireturn, 1) := by decide +kernel
theorem dX10_symlink_33 : decode cX10_symlink 33 = .ok (.aload_n 0, 1) := by decide +kernel
theorem dX10_symlink_34 : decode cX10_symlink 34 = .ok (.iconst 3, 1) := by decide +kernel
theorem dX10_symlink_35 : decode cX10_symlink 35 = .ok (.aload_n 0, 1) := by decide +kernel
theorem dX10_symlink_36 : decode cX10_symlink 36 = .ok (.invokevirtual 130, 3) := by decide +kernel
theorem dX10_symlink_39 : decode cX10_symlink 39 = .ok (.invokevirtual 134, 3) := by decide +kernel
theorem dX10_symlink_42 : decode cX10_symlink 42 = .ok (.ireturn, 1) := by decide +kernel
set_option maxRecDepth 100000 in
set_option maxHeartbeats 1000000 in
theorem j_X10_symlink_30 {p : Program} {l : Launch} {e : Env} {s : State} {m : MethodId} {args : Array Value} {below : List Frame} {meth : Method} {c : Code} {D : va_G} {aC : Nat → ClassId} {b0 fu : Nat} {σ0 τ : tM} {v : (Int32) ⊕ Unit}  (C : tCx p l s m args meth c yX10_symlink.cls cX10_symlink 1 (some .int) D aC b0 σ0) (htab : ∀ x ∈ c.exceptionTable.toList, False) (hin : meth.name = yX10_symlink.name)   {σ : tM} (hm : J_X10_symlink_30 b0 fu   σ = some (v, τ)) : tX p l e s m args below meth c 1 12 219 D aC b0 σ0 (rxI "java/lang/IllegalStateException" v) τ 30 [] [] σ := by
  unfold J_X10_symlink_30 at hm
  refine zx_bipush (v := (-9)) C dX10_symlink_30 (by decide) ?_
  obtain ⟨rfl, rfl⟩ := ret_e hm
  exact zx_iret C rfl rfl rfl dX10_symlink_32
set_option maxRecDepth 100000 in
set_option maxHeartbeats 1000000 in
theorem c_X10_symlink {l : Launch} {D : va_G} {aC : Nat → ClassId} {b0 fu : Nat} {a0 : Nat} {σ τ : tM} {v : (Int32) ⊕ Unit} (hm : m_X10_symlink b0 fu a0 σ = some (v, τ)) : tMt l D aC b0 yX10_symlink (Cond.code yX10_symlink cX10_symlink 1 (some .int)) 12 219 [.ref (a0)] σ (rxI "java/lang/IllegalStateException" v) τ := by
  unfold m_X10_symlink at hm
  obtain ⟨hg, hm⟩ := grw_e hm
  refine tMt_of (n := 0) rfl (Nat.le_of_ble_eq_true rfl) hg ?_
  intro p e s m below meth c C htab hin
  refine zx_lv [0] [(0, .ref (a0))] rfl ?_
  refine zx_aload_n C dX10_symlink_0 0 rfl ?_
  obtain ⟨k1, i2, hm⟩ := ckO_e hm
  obtain ⟨a3, h4, hm⟩ := osm_e hm
  refine zx_get (j := 3) C tC_10 k1 i2 ⟨by decide, Or.inl W_2_216⟩ dX10_symlink_1 (.ref a3) (rf_s h4) ?_
  obtain ⟨k5, i6, hm⟩ := ckO_e hm
  rcases clx_e hm with ⟨v7, ρ8, h9, hm⟩ | ⟨ρ8, h9, hm⟩
  · refine zx_callV (σ := σ) C [] tC_1 k5 i6 Y_X1_postAhead W_3_108 W_3_109 W_3_110 (c_X1_postAhead h9) (by decide) (by decide) rfl (Nat.le_of_ble_eq_true rfl) dX10_symlink_4 rfl ?_
    refine zx_aload_n C dX10_symlink_7 0 rfl ?_
    obtain ⟨k10, i11, hm⟩ := ckO_e hm
    obtain ⟨a12, h13, hm⟩ := osm_e hm
    refine zx_get (j := 8) C tC_10 k10 i11 ⟨by decide, Or.inl W_2_221⟩ dX10_symlink_8 (.ref a12) (rf_s h13) ?_
    obtain ⟨k14, i15, hm⟩ := ckO_e hm
    refine zx_get (j := 1) C tC_3 k14 i15 ⟨by decide, Or.inr ⟨_, W_2_61⟩⟩ dX10_symlink_11 (.int (tI (ρ8) (a12) 1)) rfl ?_
    refine zx_iconst (v := 1) C dX10_symlink_14 (by decide) ?_
    refine zx_icmp_lt C 30 dX10_symlink_15 (by decide) (fun c16 => ?_) (fun c16 => ?_)
    · replace hm := ip_e hm c16
      exact zx_lv [] [] rfl (j_X10_symlink_30 C htab hin    hm)
    · replace hm := in_e hm c16
      refine zx_aload_n C dX10_symlink_18 0 rfl ?_
      obtain ⟨a17, h18, hm⟩ := osm_e hm
      refine zx_get (j := 8) C tC_10 k10 i11 ⟨by decide, Or.inl W_2_221⟩ dX10_symlink_19 (.ref a17) (rf_s h18) ?_
      obtain ⟨k19, i20, hm⟩ := ckO_e hm
      refine zx_get (j := 1) C tC_3 k19 i20 ⟨by decide, Or.inr ⟨_, W_2_61⟩⟩ dX10_symlink_22 (.int (tI (ρ8) (a17) 1)) rfl ?_
      refine zx_bipush (v := 80) C dX10_symlink_25 (by decide) ?_
      refine zx_icmp_le C 33 dX10_symlink_27 (by decide) (fun c21 => ?_) (fun c21 => ?_)
      · replace hm := ip_e hm c21
        refine zx_aload_n C dX10_symlink_33 0 rfl ?_
        refine zx_iconst (v := 3) C dX10_symlink_34 (by decide) ?_
        refine zx_aload_n C dX10_symlink_35 0 rfl ?_
        obtain ⟨v22, ρ23, h24, hm⟩ := cll_e hm
        refine zx_callV (σ := ρ8) C [] tC_10 k10 i11 Y_X10_placeForNew W_4_65 W_4_67 Wp_20 (c_X10_placeForNew h24) (by decide) (by decide) rfl (Nat.le_of_ble_eq_true rfl) dX10_symlink_36 rfl ?_
        obtain ⟨k25, i26, hm⟩ := ckO_e hm
        obtain ⟨v27, ρ28, h29, hm⟩ := cll_e hm
        refine zx_callV (σ := ρ23) C [.int (3), .int (v22)] tC_10 k25 i26 Y_X10_make W_4_150 W_4_152 Wp_27 (c_X10_make h29) (by decide) (by decide) rfl (Nat.le_of_ble_eq_true rfl) dX10_symlink_39 rfl ?_
        obtain ⟨rfl, rfl⟩ := ret_e hm
        exact zx_iret C rfl rfl rfl dX10_symlink_42
      · replace hm := in_e hm c21
        exact zx_lv [] [] rfl (j_X10_symlink_30 C htab hin    hm)
  · cases hm
    exact zx_outV (σ := σ) C htab [] tC_1 k5 i6 Y_X1_postAhead W_3_108 W_3_109 W_3_110 (c_X1_postAhead h9) rfl (by decide) (by decide) rfl (Nat.le_of_ble_eq_true rfl) dX10_symlink_4 rfl
abbrev cX10_link : ByteArray := prog_1_method_11_code
def yX10_link : MethodName := ⟨"SyncTree", "link", "()I"⟩
theorem Y_X10_link : tY yX10_link cX10_link 4 (some .int) 0 := ⟨W_5_9, W_1_1, ⟨by decide +kernel, by decide +kernel⟩, by decide +kernel⟩
theorem dX10_link_0 : decode cX10_link 0 = .ok (.aload_n 0, 1) := by decide +kernel
theorem dX10_link_1 : decode cX10_link 1 = .ok (.getfield 37, 3) := by decide +kernel
theorem dX10_link_4 : decode cX10_link 4 = .ok (.invokevirtual 127, 3) := by decide +kernel
theorem dX10_link_7 : decode cX10_link 7 = .ok (.aload_n 0, 1) := by decide +kernel
theorem dX10_link_8 : decode cX10_link 8 = .ok (.getfield 55, 3) := by decide +kernel
theorem dX10_link_11 : decode cX10_link 11 = .ok (.aload_n 0, 1) := by decide +kernel
theorem dX10_link_12 : decode cX10_link 12 = .ok (.getfield 73, 3) := by decide +kernel
theorem dX10_link_15 : decode cX10_link 15 = .ok (.iconst 0, 1) := by decide +kernel
theorem dX10_link_16 : decode cX10_link 16 = .ok (.invokevirtual 164, 3) := by decide +kernel
theorem dX10_link_19 : decode cX10_link 19 = .ok (.istore_n 1, 1) := by decide +kernel
theorem dX10_link_20 : decode cX10_link 20 = .ok (.iload_n 1, 1) := by decide +kernel
theorem dX10_link_21 : decode cX10_link 21 = .ok (.ifCond .ge 5, 3) := by decide +kernel
theorem dX10_link_24 : decode cX10_link 24 = .ok (.iload_n 1, 1) := by decide +kernel
theorem dX10_link_25 : decode cX10_link 25 = .ok (.ireturn, 1) := by decide +kernel
theorem dX10_link_26 : decode cX10_link 26 = .ok (.aload_n 0, 1) := by decide +kernel
theorem dX10_link_27 : decode cX10_link 27 = .ok (.getfield 28, 3) := by decide +kernel
theorem dX10_link_30 : decode cX10_link 30 = .ok (.iload_n 1, 1) := by decide +kernel
theorem dX10_link_31 : decode cX10_link 31 = .ok (.invokevirtual 168, 3) := by decide +kernel
theorem dX10_link_34 : decode cX10_link 34 = .ok (.iconst 2, 1) := by decide +kernel
theorem dX10_link_35 : decode cX10_link 35 = .ok (.if_icmp .ne 6, 3) := by decide +kernel
theorem dX10_link_38 : decode cX10_link 38 = .ok (.bipush (-4), 2) := by decide +kernel
theorem dX10_link_40 : decode cX10_link 40 = .ok (.ireturn, 1) := by decide +kernel
theorem dX10_link_41 : decode cX10_link 41 = .ok (.aload_n 0, 1) := by decide +kernel
theorem dX10_link_42 : decode cX10_link 42 = .ok (.invokevirtual 130, 3) := by decide +kernel
theorem dX10_link_45 : decode cX10_link 45 = .ok (.istore_n 2, 1) := by decide +kernel
theorem dX10_link_46 : decode cX10_link 46 = .ok (.iload_n 2, 1) := by decide +kernel
theorem dX10_link_47 : decode cX10_link 47 = .ok (.ifCond .ge 5, 3) := by decide +kernel
theorem dX10_link_50 : decode cX10_link 50 = .ok (.iload_n 2, 1) := by decide +kernel
theorem dX10_link_51 : decode cX10_link 51 = .ok (.ireturn, 1) := by decide +kernel
theorem dX10_link_52 : decode cX10_link 52 = .ok (.aload_n 0, 1) := by decide +kernel
theorem dX10_link_53 : decode cX10_link 53 = .ok (.getfield 28, 3) := by decide +kernel
theorem dX10_link_56 : decode cX10_link 56 = .ok (.iload_n 1, 1) := by decide +kernel
theorem dX10_link_57 : decode cX10_link 57 = .ok (.invokevirtual 172, 3) := by decide +kernel
theorem dX10_link_60 : decode cX10_link 60 = .ok (.istore_n 3, 1) := by decide +kernel
theorem dX10_link_61 : decode cX10_link 61 = .ok (.iload_n 3, 1) := by decide +kernel
theorem dX10_link_62 : decode cX10_link 62 = .ok (.sipush 200, 3) := by decide +kernel
theorem dX10_link_65 : decode cX10_link 65 = .ok (.if_icmp .lt 6, 3) := by decide +kernel
theorem dX10_link_68 : decode cX10_link 68 = .ok (.bipush (-10), 2) := by decide +kernel
theorem dX10_link_70 : decode cX10_link 70 = .ok (.ireturn, 1) := by decide +kernel
theorem dX10_link_71 : decode cX10_link 71 = .ok (.aload_n 0, 1) := by decide +kernel
theorem dX10_link_72 : decode cX10_link 72 = .ok (.getfield 28, 3) := by decide +kernel
theorem dX10_link_75 : decode cX10_link 75 = .ok (.iload_n 2, 1) := by decide +kernel
theorem dX10_link_76 : decode cX10_link 76 = .ok (.invokevirtual 142, 3) := by decide +kernel
theorem dX10_link_79 : decode cX10_link 79 = .ok (.ifCond .ne 6, 3) := by decide +kernel
theorem dX10_link_82 : decode cX10_link 82 = .ok (.bipush (-6), 2) := by decide +kernel
theorem dX10_link_84 : decode cX10_link 84 = .ok (.ireturn, 1) := by decide +kernel
theorem dX10_link_85 : decode cX10_link 85 = .ok (.aload_n 0, 1) := by decide +kernel
theorem dX10_link_86 : decode cX10_link 86 = .ok (.getfield 28, 3) := by decide +kernel
theorem dX10_link_89 : decode cX10_link 89 = .ok (.iload_n 2, 1) := by decide +kernel
theorem dX10_link_90 : decode cX10_link 90 = .ok (.aload_n 0, 1) := by decide +kernel
theorem dX10_link_91 : decode cX10_link 91 = .ok (.getfield 69, 3) := by decide +kernel
theorem dX10_link_94 : decode cX10_link 94 = .ok (.iload_n 1, 1) := by decide +kernel
theorem dX10_link_95 : decode cX10_link 95 = .ok (.invokevirtual 149, 3) := by decide +kernel
theorem dX10_link_98 : decode cX10_link 98 = .ok (.aload_n 0, 1) := by decide +kernel
theorem dX10_link_99 : decode cX10_link 99 = .ok (.getfield 28, 3) := by decide +kernel
theorem dX10_link_102 : decode cX10_link 102 = .ok (.iload_n 1, 1) := by decide +kernel
theorem dX10_link_103 : decode cX10_link 103 = .ok (.iload_n 3, 1) := by decide +kernel
theorem dX10_link_104 : decode cX10_link 104 = .ok (.iconst 1, 1) := by decide +kernel
theorem dX10_link_105 : decode cX10_link 105 = .ok (.iadd, 1) := by decide +kernel
theorem dX10_link_106 : decode cX10_link 106 = .ok (.invokevirtual 175, 3) := by decide +kernel
theorem dX10_link_109 : decode cX10_link 109 = .ok (.iload_n 3, 1) := by decide +kernel
theorem dX10_link_110 : decode cX10_link 110 = .ok (.iconst 1, 1) := by decide +kernel
theorem dX10_link_111 : decode cX10_link 111 = .ok (.iadd, 1) := by decide +kernel
theorem dX10_link_112 : decode cX10_link 112 = .ok (.ireturn, 1) := by decide +kernel
set_option maxRecDepth 100000 in
set_option maxHeartbeats 1000000 in
theorem c_X10_link {l : Launch} {D : va_G} {aC : Nat → ClassId} {b0 fu : Nat} {a0 : Nat} {σ τ : tM} {v : (Int32) ⊕ Unit} (hm : m_X10_link b0 fu a0 σ = some (v, τ)) : tMt l D aC b0 yX10_link (Cond.code yX10_link cX10_link 4 (some .int)) 12 219 [.ref (a0)] σ (rxI "java/lang/IllegalStateException" v) τ := by
  unfold m_X10_link at hm
  obtain ⟨hg, hm⟩ := grw_e hm
  refine tMt_of (n := 0) rfl (Nat.le_of_ble_eq_true rfl) hg ?_
  intro p e s m below meth c C htab hin
  refine zx_lv [0] [(0, .ref (a0))] rfl ?_
  refine zx_aload_n C dX10_link_0 0 rfl ?_
  obtain ⟨k1, i2, hm⟩ := ckO_e hm
  obtain ⟨a3, h4, hm⟩ := osm_e hm
  refine zx_get (j := 3) C tC_10 k1 i2 ⟨by decide, Or.inl W_2_216⟩ dX10_link_1 (.ref a3) (rf_s h4) ?_
  obtain ⟨k5, i6, hm⟩ := ckO_e hm
  rcases clx_e hm with ⟨v7, ρ8, h9, hm⟩ | ⟨ρ8, h9, hm⟩
  · refine zx_callV (σ := σ) C [] tC_1 k5 i6 Y_X1_postAhead W_3_108 W_3_109 W_3_110 (c_X1_postAhead h9) (by decide) (by decide) rfl (Nat.le_of_ble_eq_true rfl) dX10_link_4 rfl ?_
    refine zx_aload_n C dX10_link_7 0 rfl ?_
    obtain ⟨k10, i11, hm⟩ := ckO_e hm
    obtain ⟨a12, h13, hm⟩ := osm_e hm
    refine zx_get (j := 5) C tC_10 k10 i11 ⟨by decide, Or.inl W_2_218⟩ dX10_link_8 (.ref a12) (rf_s h13) ?_
    refine zx_aload_n C dX10_link_11 0 rfl ?_
    obtain ⟨a14, h15, hm⟩ := osm_e hm
    refine zx_get (j := 8) C tC_10 k10 i11 ⟨by decide, Or.inl W_2_221⟩ dX10_link_12 (.ref a14) (rf_s h15) ?_
    refine zx_iconst (v := 0) C dX10_link_15 (by decide) ?_
    obtain ⟨k16, i17, hm⟩ := ckO_e hm
    obtain ⟨v18, ρ19, h20, hm⟩ := cll_e hm
    refine zx_callV (σ := ρ8) C [.ref (a14), .int (0)] tC_9 k16 i17 Y_X9_walkWhole W_5_10 W_5_11 W_5_12 (c_X9_walkWhole h20) (by decide) (by decide) rfl (Nat.le_of_ble_eq_true rfl) dX10_link_16 rfl ?_
    refine zx_istore_n C [(1, .int (v18)), (0, .ref (a0))] dX10_link_19 rfl (by decide) rfl ?_
    refine zx_iload_n C dX10_link_20 0 rfl ?_
    refine zx_if_ge C 26 dX10_link_21 (by decide) (fun c21 => ?_) (fun c21 => ?_)
    · replace hm := ip_e hm c21
      refine zx_aload_n C dX10_link_26 1 rfl ?_
      obtain ⟨k22, i23, hm⟩ := ckO_e hm
      obtain ⟨a24, h25, hm⟩ := osm_e hm
      refine zx_get (j := 2) C tC_10 k22 i23 ⟨by decide, Or.inl W_2_215⟩ dX10_link_27 (.ref a24) (rf_s h25) ?_
      refine zx_iload_n C dX10_link_30 0 rfl ?_
      obtain ⟨k26, i27, hm⟩ := ckO_e hm
      obtain ⟨v28, ρ29, h30, hm⟩ := cll_e hm
      refine zx_callV (σ := ρ19) C [.int (v18)] tC_8 k26 i27 Y_X8_kind W_5_14 W_3_80 W_3_81 (c_X8_kind h30) (by decide) (by decide) rfl (Nat.le_of_ble_eq_true rfl) dX10_link_31 rfl ?_
      refine zx_iconst (v := 2) C dX10_link_34 (by decide) ?_
      refine zx_icmp_ne C 41 dX10_link_35 (by decide) (fun c31 => ?_) (fun c31 => ?_)
      · replace hm := in_e hm c31
        refine zx_aload_n C dX10_link_41 1 rfl ?_
        obtain ⟨k32, i33, hm⟩ := ckO_e hm
        obtain ⟨v34, ρ35, h36, hm⟩ := cll_e hm
        refine zx_callV (σ := ρ29) C [] tC_10 k32 i33 Y_X10_placeForNew W_4_65 W_4_67 Wp_20 (c_X10_placeForNew h36) (by decide) (by decide) rfl (Nat.le_of_ble_eq_true rfl) dX10_link_42 rfl ?_
        refine zx_istore_n C [(2, .int (v34)), (1, .int (v18)), (0, .ref (a0))] dX10_link_45 rfl (by decide) rfl ?_
        refine zx_iload_n C dX10_link_46 0 rfl ?_
        refine zx_if_ge C 52 dX10_link_47 (by decide) (fun c37 => ?_) (fun c37 => ?_)
        · replace hm := ip_e hm c37
          refine zx_aload_n C dX10_link_52 2 rfl ?_
          obtain ⟨k38, i39, hm⟩ := ckO_e hm
          obtain ⟨a40, h41, hm⟩ := osm_e hm
          refine zx_get (j := 2) C tC_10 k38 i39 ⟨by decide, Or.inl W_2_215⟩ dX10_link_53 (.ref a40) (rf_s h41) ?_
          refine zx_iload_n C dX10_link_56 1 rfl ?_
          obtain ⟨k42, i43, hm⟩ := ckO_e hm
          obtain ⟨v44, ρ45, h46, hm⟩ := cll_e hm
          refine zx_callV (σ := ρ35) C [.int (v18)] tC_8 k42 i43 Y_X8_names W_5_15 W_4_191 W_4_192 (c_X8_names h46) (by decide) (by decide) rfl (Nat.le_of_ble_eq_true rfl) dX10_link_57 rfl ?_
          refine zx_istore_n C [(3, .int (v44)), (2, .int (v34)), (1, .int (v18)), (0, .ref (a0))] dX10_link_60 rfl (by decide) rfl ?_
          refine zx_iload_n C dX10_link_61 0 rfl ?_
          refine zx_sipush (v := 200) C dX10_link_62 (by decide) ?_
          refine zx_icmp_lt C 71 dX10_link_65 (by decide) (fun c47 => ?_) (fun c47 => ?_)
          · replace hm := ip_e hm c47
            refine zx_aload_n C dX10_link_71 3 rfl ?_
            obtain ⟨k48, i49, hm⟩ := ckO_e hm
            obtain ⟨a50, h51, hm⟩ := osm_e hm
            refine zx_get (j := 2) C tC_10 k48 i49 ⟨by decide, Or.inl W_2_215⟩ dX10_link_72 (.ref a50) (rf_s h51) ?_
            refine zx_iload_n C dX10_link_75 1 rfl ?_
            obtain ⟨k52, i53, hm⟩ := ckO_e hm
            obtain ⟨v54, ρ55, h56, hm⟩ := cll_e hm
            refine zx_callV (σ := ρ45) C [.int (v34)] tC_8 k52 i53 Y_X8_hasPlaceForEntry W_4_158 W_4_159 W_4_160 (c_X8_hasPlaceForEntry h56) (by decide) (by decide) rfl (Nat.le_of_ble_eq_true rfl) dX10_link_76 rfl ?_
            refine zx_if_ne C 85 dX10_link_79 (by decide) (fun c57 => ?_) (fun c57 => ?_)
            · replace hm := in_e hm c57
              refine zx_aload_n C dX10_link_85 3 rfl ?_
              obtain ⟨k58, i59, hm⟩ := ckO_e hm
              obtain ⟨a60, h61, hm⟩ := osm_e hm
              refine zx_get (j := 2) C tC_10 k58 i59 ⟨by decide, Or.inl W_2_215⟩ dX10_link_86 (.ref a60) (rf_s h61) ?_
              refine zx_iload_n C dX10_link_89 1 rfl ?_
              refine zx_aload_n C dX10_link_90 3 rfl ?_
              obtain ⟨a62, h63, hm⟩ := osm_e hm
              refine zx_get (j := 7) C tC_10 k58 i59 ⟨by decide, Or.inl W_2_220⟩ dX10_link_91 (.ref a62) (rf_s h63) ?_
              refine zx_iload_n C dX10_link_94 2 rfl ?_
              obtain ⟨k64, i65, hm⟩ := ckO_e hm
              obtain ⟨v66, ρ67, h68, hm⟩ := cll_e hm
              refine zx_callV (σ := ρ55) C [.int (v34), .ref (a62), .int (v18)] tC_8 k64 i65 Y_X8_addEntry W_4_195 W_4_196 W_4_197 (c_X8_addEntry h68) (by decide) (by decide) rfl (Nat.le_of_ble_eq_true rfl) dX10_link_95 rfl ?_
              refine zx_aload_n C dX10_link_98 3 rfl ?_
              obtain ⟨k69, i70, hm⟩ := ckO_e hm
              obtain ⟨a71, h72, hm⟩ := osm_e hm
              refine zx_get (j := 2) C tC_10 k69 i70 ⟨by decide, Or.inl W_2_215⟩ dX10_link_99 (.ref a71) (rf_s h72) ?_
              refine zx_iload_n C dX10_link_102 2 rfl ?_
              refine zx_iload_n C dX10_link_103 0 rfl ?_
              refine zx_iconst (v := 1) C dX10_link_104 (by decide) ?_
              refine zx_iadd C dX10_link_105 ?_
              obtain ⟨k73, i74, hm⟩ := ckO_e hm
              obtain ⟨v75, ρ76, h77, hm⟩ := cll_e hm
              refine zx_callV (σ := ρ67) C [.int (v18), .int ((v44) + (1))] tC_8 k73 i74 Y_X8_setNames W_5_16 W_5_17 W_5_18 (c_X8_setNames h77) (by decide) (by decide) rfl (Nat.le_of_ble_eq_true rfl) dX10_link_106 rfl ?_
              refine zx_iload_n C dX10_link_109 0 rfl ?_
              refine zx_iconst (v := 1) C dX10_link_110 (by decide) ?_
              refine zx_iadd C dX10_link_111 ?_
              obtain ⟨rfl, rfl⟩ := ret_e hm
              exact zx_iret C rfl rfl rfl dX10_link_112
            · replace hm := ip_e hm c57
              refine zx_bipush (v := (-6)) C dX10_link_82 (by decide) ?_
              obtain ⟨rfl, rfl⟩ := ret_e hm
              exact zx_iret C rfl rfl rfl dX10_link_84
          · replace hm := in_e hm c47
            refine zx_bipush (v := (-10)) C dX10_link_68 (by decide) ?_
            obtain ⟨rfl, rfl⟩ := ret_e hm
            exact zx_iret C rfl rfl rfl dX10_link_70
        · replace hm := in_e hm c37
          refine zx_iload_n C dX10_link_50 0 rfl ?_
          obtain ⟨rfl, rfl⟩ := ret_e hm
          exact zx_iret C rfl rfl rfl dX10_link_51
      · replace hm := ip_e hm c31
        refine zx_bipush (v := (-4)) C dX10_link_38 (by decide) ?_
        obtain ⟨rfl, rfl⟩ := ret_e hm
        exact zx_iret C rfl rfl rfl dX10_link_40
    · replace hm := in_e hm c21
      refine zx_iload_n C dX10_link_24 0 rfl ?_
      obtain ⟨rfl, rfl⟩ := ret_e hm
      exact zx_iret C rfl rfl rfl dX10_link_25
  · cases hm
    exact zx_outV (σ := σ) C htab [] tC_1 k5 i6 Y_X1_postAhead W_3_108 W_3_109 W_3_110 (c_X1_postAhead h9) rfl (by decide) (by decide) rfl (Nat.le_of_ble_eq_true rfl) dX10_link_4 rfl
