set_option maxRecDepth 100000 in
set_option maxHeartbeats 1000000 in
theorem j_L_law_695 {p : Program} {l : Launch} {e : Env} {s : State} {m : MethodId} {args : Array Value} {below : List Frame} {meth : Method} {c : Code} {D : va_G} {aC : Nat → ClassId} {b0 fu : Nat} {σ0 τ : tM} {v : Int32} {b L : Nat} {xs : Nat → Int32} {rc23 : Nat → Nat → Nat → Int32 → tM → Option ((Int32) × tM)} (C : tCx p l s m args meth c yL_law.cls cL_law 8 (some .boolean) D aC b0 σ0) (htab : True) (hin : True) (hX : va_X b L xs s s.heap) (hbb : b < b0) (hrc23 : ∀ (x1 : Nat) (x2 : Nat) (x3 : Nat) (x4 : Int32) (ρ : tM), rc23 x1 x2 x3 x4 ρ = some (v, τ) → tX p l e s m args below meth c 8 14 271 D aC b0 σ0 (.inl (some (.int v))) τ 23 [(0, .ref (b)), (1, .ref (x1)), (2, .ref (x2)), (3, .ref (x3)), (4, .int (x4))] [] ρ) {x1 : Nat} {x2 : Nat} {x3 : Nat} {x4 : Int32} {σ : tM} (hm : J_L_law_695 b0 fu L xs rc23 x1 x2 x3 x4 σ = some (v, τ)) : tX p l e s m args below meth c 8 14 271 D aC b0 σ0 (.inl (some (.int v))) τ 695 [(0, .ref (b)), (1, .ref (x1)), (2, .ref (x2)), (3, .ref (x3)), (4, .int (x4))] [] σ := by
  unfold J_L_law_695 at hm
  refine zx_aload_n C dL_law_695 1 rfl ?_
  refine zx_aload_n C dL_law_696 0 rfl ?_
  refine zx_iload C dL_law_697 4 rfl ?_
  refine zx_iconst (v := 1) C dL_law_699 (by decide) ?_
  refine zx_iadd C dL_law_700 ?_
  obtain ⟨h231, hm⟩ := ckI_e hm
  refine zx_sld C hX hbb h231 dL_law_701 ?_
  refine zx_aload_n C dL_law_702 3 rfl ?_
  obtain ⟨v232, ρ233, h234, hm⟩ := cll_e hm
  refine zx_callSH (σ := σ) C [.ref (x1), .int (xs (((x4) + (1)).toNatClampNeg)), .ref (x3)] Y_L_close W_5_131 W_5_132 (c_L_close h234) (by decide) (by decide) rfl (Nat.le_of_ble_eq_true rfl) dL_law_703 rfl ?_
  refine zx_istore C [(5, .int (v232)), (0, .ref (b)), (1, .ref (x1)), (2, .ref (x2)), (3, .ref (x3)), (4, .int (x4))] dL_law_706 (by decide) rfl ?_
  refine zx_aload_n C dL_law_708 3 rfl ?_
  refine zx_aload_n C dL_law_709 1 rfl ?_
  refine zx_iload C dL_law_710 5 rfl ?_
  refine zx_iconst (v := 1) C dL_law_712 (by decide) ?_
  refine zx_iadd C dL_law_713 ?_
  obtain ⟨h235, hm⟩ := ckI_e hm
  refine zx_sld C hX hbb h235 dL_law_714 ?_
  obtain ⟨k236, i237, hm⟩ := ckO_e hm
  obtain ⟨v238, ρ239, h240, hm⟩ := cll_e hm
  refine zx_callVH (σ := ρ233) C [.int (xs (((x4) + (1)).toNatClampNeg))] tC_11 k236 i237 Y_X12_close W_8_217 W_8_218 W_8_219 (c_X12_close h240) (by decide) (by decide) rfl (Nat.le_of_ble_eq_true rfl) dL_law_715 rfl ?_
  refine zx_istore C [(6, .int (v238)), (5, .int (v232)), (0, .ref (b)), (1, .ref (x1)), (2, .ref (x2)), (3, .ref (x3)), (4, .int (x4))] dL_law_718 (by decide) rfl ?_
  refine zx_aload_n C dL_law_720 4 rfl ?_
  obtain ⟨k241, i242, hm⟩ := ckO_e hm
  obtain ⟨v243, ρ244, h245, hm⟩ := cll_e hm
  refine zx_callV (σ := ρ239) C [] tC_11 k241 i242 Y_X12_thrown W_6_190 W_6_191 W_6_192 (c_X12_thrown h245) (by decide) (by decide) rfl (Nat.le_of_ble_eq_true rfl) dL_law_721 rfl ?_
  refine zx_iload C dL_law_724 1 rfl ?_
  refine zx_icmp_eq C 731 dL_law_726 (by decide) (fun c246 => ?_) (fun c246 => ?_)
  · replace hm := ip_e hm c246
    refine zx_iload C dL_law_731 1 rfl ?_
    refine zx_if_ne C 748 dL_law_733 (by decide) (fun c247 => ?_) (fun c247 => ?_)
    · replace hm := in_e hm c247
      exact zx_lv [2, 3, 4, 5, 6] [(0, .ref (b)), (1, .ref (x1)), (2, .ref (x2)), (3, .ref (x3)), (4, .int (x4))] rfl (j_L_law_748 C htab hin hX hbb hrc23   hm)
    · replace hm := ip_e hm c247
      refine zx_aload_n C dL_law_736 5 rfl ?_
      refine zx_iconst (v := 0) C dL_law_737 (by decide) ?_
      obtain ⟨n250, k248, i249, hm⟩ := ckR_e hm
      obtain ⟨h251, hm⟩ := ckI_e hm
      refine zx_lald C k248 i249 h251 dL_law_738 ?_
      refine zx_iload C dL_law_739 0 rfl ?_
      refine zx_i2l C dL_law_741 ?_
      refine zx_lcmp C dL_law_742 ?_
      refine zx_if_eq C 748 dL_law_743 (by decide) (fun c252 => ?_) (fun c252 => ?_)
      · replace hm := ip_e hm c252
        exact zx_lv [2, 3, 4, 5, 6] [(0, .ref (b)), (1, .ref (x1)), (2, .ref (x2)), (3, .ref (x3)), (4, .int (x4))] rfl (j_L_law_748 C htab hin hX hbb hrc23   hm)
      · replace hm := in_e hm c252
        refine zx_iconst (v := 0) C dL_law_746 (by decide) ?_
        obtain ⟨rfl, rfl⟩ := ret_e hm
        exact zx_zret C rfl (by decide) rfl rfl dL_law_747
  · replace hm := in_e hm c246
    refine zx_iconst (v := 0) C dL_law_729 (by decide) ?_
    obtain ⟨rfl, rfl⟩ := ret_e hm
    exact zx_zret C rfl (by decide) rfl rfl dL_law_730
set_option maxRecDepth 100000 in
set_option maxHeartbeats 1000000 in
theorem j_L_law_828 {p : Program} {l : Launch} {e : Env} {s : State} {m : MethodId} {args : Array Value} {below : List Frame} {meth : Method} {c : Code} {D : va_G} {aC : Nat → ClassId} {b0 fu : Nat} {σ0 τ : tM} {v : Int32} {b L : Nat} {xs : Nat → Int32} {rc23 : Nat → Nat → Nat → Int32 → tM → Option ((Int32) × tM)} (C : tCx p l s m args meth c yL_law.cls cL_law 8 (some .boolean) D aC b0 σ0) (htab : True) (hin : True) (hX : va_X b L xs s s.heap) (hbb : b < b0) (hrc23 : ∀ (x1 : Nat) (x2 : Nat) (x3 : Nat) (x4 : Int32) (ρ : tM), rc23 x1 x2 x3 x4 ρ = some (v, τ) → tX p l e s m args below meth c 8 14 271 D aC b0 σ0 (.inl (some (.int v))) τ 23 [(0, .ref (b)), (1, .ref (x1)), (2, .ref (x2)), (3, .ref (x3)), (4, .int (x4))] [] ρ) {x1 : Nat} {x2 : Nat} {x3 : Nat} {x4 : Int32} {σ : tM} (hm : J_L_law_828 b0 fu L xs rc23 x1 x2 x3 x4 σ = some (v, τ)) : tX p l e s m args below meth c 8 14 271 D aC b0 σ0 (.inl (some (.int v))) τ 828 [(0, .ref (b)), (1, .ref (x1)), (2, .ref (x2)), (3, .ref (x3)), (4, .int (x4))] [] σ := by
  unfold J_L_law_828 at hm
  refine zx_goto C 2051 dL_law_828 (by decide) ?_
  exact zx_lv [0, 1, 2, 3, 4] [(0, .ref (b)), (1, .ref (x1)), (2, .ref (x2)), (3, .ref (x3)), (4, .int (x4))] rfl (j_L_law_2051 C htab hin hX hbb hrc23   hm)
set_option maxRecDepth 100000 in
set_option maxHeartbeats 1000000 in
theorem j_L_law_751 {p : Program} {l : Launch} {e : Env} {s : State} {m : MethodId} {args : Array Value} {below : List Frame} {meth : Method} {c : Code} {D : va_G} {aC : Nat → ClassId} {b0 fu : Nat} {σ0 τ : tM} {v : Int32} {b L : Nat} {xs : Nat → Int32} {rc23 : Nat → Nat → Nat → Int32 → tM → Option ((Int32) × tM)} (C : tCx p l s m args meth c yL_law.cls cL_law 8 (some .boolean) D aC b0 σ0) (htab : True) (hin : True) (hX : va_X b L xs s s.heap) (hbb : b < b0) (hrc23 : ∀ (x1 : Nat) (x2 : Nat) (x3 : Nat) (x4 : Int32) (ρ : tM), rc23 x1 x2 x3 x4 ρ = some (v, τ) → tX p l e s m args below meth c 8 14 271 D aC b0 σ0 (.inl (some (.int v))) τ 23 [(0, .ref (b)), (1, .ref (x1)), (2, .ref (x2)), (3, .ref (x3)), (4, .int (x4))] [] ρ) {x1 : Nat} {x2 : Nat} {x3 : Nat} {x4 : Int32} {σ : tM} (hm : J_L_law_751 b0 fu L xs rc23 x1 x2 x3 x4 σ = some (v, τ)) : tX p l e s m args below meth c 8 14 271 D aC b0 σ0 (.inl (some (.int v))) τ 751 [(0, .ref (b)), (1, .ref (x1)), (2, .ref (x2)), (3, .ref (x3)), (4, .int (x4))] [] σ := by
  unfold J_L_law_751 at hm
  refine zx_aload_n C dL_law_751 1 rfl ?_
  refine zx_aload_n C dL_law_752 0 rfl ?_
  refine zx_iload C dL_law_753 4 rfl ?_
  refine zx_iconst (v := 1) C dL_law_755 (by decide) ?_
  refine zx_iadd C dL_law_756 ?_
  obtain ⟨h253, hm⟩ := ckI_e hm
  refine zx_sld C hX hbb h253 dL_law_757 ?_
  refine zx_aload_n C dL_law_758 0 rfl ?_
  refine zx_iload C dL_law_759 4 rfl ?_
  refine zx_iconst (v := 2) C dL_law_761 (by decide) ?_
  refine zx_iadd C dL_law_762 ?_
  obtain ⟨h254, hm⟩ := ckI_e hm
  refine zx_sld C hX hbb h254 dL_law_763 ?_
  refine zx_aload_n C dL_law_764 0 rfl ?_
  refine zx_iload C dL_law_765 4 rfl ?_
  refine zx_iconst (v := 3) C dL_law_767 (by decide) ?_
  refine zx_iadd C dL_law_768 ?_
  obtain ⟨h255, hm⟩ := ckI_e hm
  refine zx_sld C hX hbb h255 dL_law_769 ?_
  refine zx_aload_n C dL_law_770 3 rfl ?_
  obtain ⟨v256, ρ257, h258, hm⟩ := cll_e hm
  refine zx_callSH (σ := σ) C [.ref (x1), .int (xs (((x4) + (1)).toNatClampNeg)), .int (xs (((x4) + (2)).toNatClampNeg)), .int (xs (((x4) + (3)).toNatClampNeg)), .ref (x3)] Y_L_write W_5_142 W_5_143 (c_L_write h258) (by decide) (by decide) rfl (Nat.le_of_ble_eq_true rfl) dL_law_771 rfl ?_
  refine zx_istore C [(5, .int (v256)), (0, .ref (b)), (1, .ref (x1)), (2, .ref (x2)), (3, .ref (x3)), (4, .int (x4))] dL_law_774 (by decide) rfl ?_
  refine zx_aload_n C dL_law_776 3 rfl ?_
  refine zx_aload_n C dL_law_777 1 rfl ?_
  refine zx_iload C dL_law_778 5 rfl ?_
  refine zx_iconst (v := 1) C dL_law_780 (by decide) ?_
  refine zx_iadd C dL_law_781 ?_
  obtain ⟨h259, hm⟩ := ckI_e hm
  refine zx_sld C hX hbb h259 dL_law_782 ?_
  refine zx_aload_n C dL_law_783 1 rfl ?_
  refine zx_iload C dL_law_784 5 rfl ?_
  refine zx_iconst (v := 2) C dL_law_786 (by decide) ?_
  refine zx_iadd C dL_law_787 ?_
  obtain ⟨h260, hm⟩ := ckI_e hm
  refine zx_sld C hX hbb h260 dL_law_788 ?_
  refine zx_aload_n C dL_law_789 1 rfl ?_
  refine zx_iload C dL_law_790 5 rfl ?_
  refine zx_iconst (v := 3) C dL_law_792 (by decide) ?_
  refine zx_iadd C dL_law_793 ?_
  obtain ⟨h261, hm⟩ := ckI_e hm
  refine zx_sld C hX hbb h261 dL_law_794 ?_
  obtain ⟨k262, i263, hm⟩ := ckO_e hm
  obtain ⟨v264, ρ265, h266, hm⟩ := cll_e hm
  refine zx_callVH (σ := ρ257) C [.int (xs (((x4) + (1)).toNatClampNeg)), .int (xs (((x4) + (2)).toNatClampNeg)), .int (xs (((x4) + (3)).toNatClampNeg))] tC_11 k262 i263 Y_X12_write W_8_225 W_8_226 W_8_227 (c_X12_write h266) (by decide) (by decide) rfl (Nat.le_of_ble_eq_true rfl) dL_law_795 rfl ?_
  refine zx_istore C [(6, .int (v264)), (5, .int (v256)), (0, .ref (b)), (1, .ref (x1)), (2, .ref (x2)), (3, .ref (x3)), (4, .int (x4))] dL_law_798 (by decide) rfl ?_
  refine zx_aload_n C dL_law_800 4 rfl ?_
  obtain ⟨k267, i268, hm⟩ := ckO_e hm
  obtain ⟨v269, ρ270, h271, hm⟩ := cll_e hm
  refine zx_callV (σ := ρ265) C [] tC_11 k267 i268 Y_X12_thrown W_6_190 W_6_191 W_6_192 (c_X12_thrown h271) (by decide) (by decide) rfl (Nat.le_of_ble_eq_true rfl) dL_law_801 rfl ?_
  refine zx_iload C dL_law_804 1 rfl ?_
  refine zx_icmp_eq C 811 dL_law_806 (by decide) (fun c272 => ?_) (fun c272 => ?_)
  · replace hm := ip_e hm c272
    refine zx_iload C dL_law_811 1 rfl ?_
    refine zx_if_ne C 828 dL_law_813 (by decide) (fun c273 => ?_) (fun c273 => ?_)
    · replace hm := in_e hm c273
      exact zx_lv [2, 3, 4, 5, 6] [(0, .ref (b)), (1, .ref (x1)), (2, .ref (x2)), (3, .ref (x3)), (4, .int (x4))] rfl (j_L_law_828 C htab hin hX hbb hrc23   hm)
    · replace hm := ip_e hm c273
      refine zx_aload_n C dL_law_816 5 rfl ?_
      refine zx_iconst (v := 0) C dL_law_817 (by decide) ?_
      obtain ⟨n276, k274, i275, hm⟩ := ckR_e hm
      obtain ⟨h277, hm⟩ := ckI_e hm
      refine zx_lald C k274 i275 h277 dL_law_818 ?_
      refine zx_iload C dL_law_819 0 rfl ?_
      refine zx_i2l C dL_law_821 ?_
      refine zx_lcmp C dL_law_822 ?_
      refine zx_if_eq C 828 dL_law_823 (by decide) (fun c278 => ?_) (fun c278 => ?_)
      · replace hm := ip_e hm c278
        exact zx_lv [2, 3, 4, 5, 6] [(0, .ref (b)), (1, .ref (x1)), (2, .ref (x2)), (3, .ref (x3)), (4, .int (x4))] rfl (j_L_law_828 C htab hin hX hbb hrc23   hm)
      · replace hm := in_e hm c278
        refine zx_iconst (v := 0) C dL_law_826 (by decide) ?_
        obtain ⟨rfl, rfl⟩ := ret_e hm
        exact zx_zret C rfl (by decide) rfl rfl dL_law_827
  · replace hm := in_e hm c272
    refine zx_iconst (v := 0) C dL_law_809 (by decide) ?_
    obtain ⟨rfl, rfl⟩ := ret_e hm
    exact zx_zret C rfl (by decide) rfl rfl dL_law_810
set_option maxRecDepth 100000 in
set_option maxHeartbeats 1000000 in
theorem j_L_law_920 {p : Program} {l : Launch} {e : Env} {s : State} {m : MethodId} {args : Array Value} {below : List Frame} {meth : Method} {c : Code} {D : va_G} {aC : Nat → ClassId} {b0 fu : Nat} {σ0 τ : tM} {v : Int32} {b L : Nat} {xs : Nat → Int32} {rc23 : Nat → Nat → Nat → Int32 → tM → Option ((Int32) × tM)} (C : tCx p l s m args meth c yL_law.cls cL_law 8 (some .boolean) D aC b0 σ0) (htab : True) (hin : True) (hX : va_X b L xs s s.heap) (hbb : b < b0) (hrc23 : ∀ (x1 : Nat) (x2 : Nat) (x3 : Nat) (x4 : Int32) (ρ : tM), rc23 x1 x2 x3 x4 ρ = some (v, τ) → tX p l e s m args below meth c 8 14 271 D aC b0 σ0 (.inl (some (.int v))) τ 23 [(0, .ref (b)), (1, .ref (x1)), (2, .ref (x2)), (3, .ref (x3)), (4, .int (x4))] [] ρ) {x1 : Nat} {x2 : Nat} {x3 : Nat} {x4 : Int32} {σ : tM} (hm : J_L_law_920 b0 fu L xs rc23 x1 x2 x3 x4 σ = some (v, τ)) : tX p l e s m args below meth c 8 14 271 D aC b0 σ0 (.inl (some (.int v))) τ 920 [(0, .ref (b)), (1, .ref (x1)), (2, .ref (x2)), (3, .ref (x3)), (4, .int (x4))] [] σ := by
  unfold J_L_law_920 at hm
  refine zx_goto C 2051 dL_law_920 (by decide) ?_
  exact zx_lv [0, 1, 2, 3, 4] [(0, .ref (b)), (1, .ref (x1)), (2, .ref (x2)), (3, .ref (x3)), (4, .int (x4))] rfl (j_L_law_2051 C htab hin hX hbb hrc23   hm)
set_option maxRecDepth 100000 in
set_option maxHeartbeats 1000000 in
theorem j_L_law_831 {p : Program} {l : Launch} {e : Env} {s : State} {m : MethodId} {args : Array Value} {below : List Frame} {meth : Method} {c : Code} {D : va_G} {aC : Nat → ClassId} {b0 fu : Nat} {σ0 τ : tM} {v : Int32} {b L : Nat} {xs : Nat → Int32} {rc23 : Nat → Nat → Nat → Int32 → tM → Option ((Int32) × tM)} (C : tCx p l s m args meth c yL_law.cls cL_law 8 (some .boolean) D aC b0 σ0) (htab : True) (hin : True) (hX : va_X b L xs s s.heap) (hbb : b < b0) (hrc23 : ∀ (x1 : Nat) (x2 : Nat) (x3 : Nat) (x4 : Int32) (ρ : tM), rc23 x1 x2 x3 x4 ρ = some (v, τ) → tX p l e s m args below meth c 8 14 271 D aC b0 σ0 (.inl (some (.int v))) τ 23 [(0, .ref (b)), (1, .ref (x1)), (2, .ref (x2)), (3, .ref (x3)), (4, .int (x4))] [] ρ) {x1 : Nat} {x2 : Nat} {x3 : Nat} {x4 : Int32} {σ : tM} (hm : J_L_law_831 b0 fu L xs rc23 x1 x2 x3 x4 σ = some (v, τ)) : tX p l e s m args below meth c 8 14 271 D aC b0 σ0 (.inl (some (.int v))) τ 831 [(0, .ref (b)), (1, .ref (x1)), (2, .ref (x2)), (3, .ref (x3)), (4, .int (x4))] [] σ := by
  unfold J_L_law_831 at hm
  refine zx_aload_n C dL_law_831 1 rfl ?_
  refine zx_aload_n C dL_law_832 0 rfl ?_
  refine zx_iload C dL_law_833 4 rfl ?_
  refine zx_iconst (v := 1) C dL_law_835 (by decide) ?_
  refine zx_iadd C dL_law_836 ?_
  obtain ⟨h279, hm⟩ := ckI_e hm
  refine zx_sld C hX hbb h279 dL_law_837 ?_
  refine zx_aload_n C dL_law_838 0 rfl ?_
  refine zx_iload C dL_law_839 4 rfl ?_
  refine zx_iconst (v := 2) C dL_law_841 (by decide) ?_
  refine zx_iadd C dL_law_842 ?_
  obtain ⟨h280, hm⟩ := ckI_e hm
  refine zx_sld C hX hbb h280 dL_law_843 ?_
  refine zx_aload_n C dL_law_844 0 rfl ?_
  refine zx_iload C dL_law_845 4 rfl ?_
  refine zx_iconst (v := 3) C dL_law_847 (by decide) ?_
  refine zx_iadd C dL_law_848 ?_
  obtain ⟨h281, hm⟩ := ckI_e hm
  refine zx_sld C hX hbb h281 dL_law_849 ?_
  refine zx_aload_n C dL_law_850 0 rfl ?_
  refine zx_iload C dL_law_851 4 rfl ?_
  refine zx_iconst (v := 4) C dL_law_853 (by decide) ?_
  refine zx_iadd C dL_law_854 ?_
  obtain ⟨h282, hm⟩ := ckI_e hm
  refine zx_sld C hX hbb h282 dL_law_855 ?_
  refine zx_aload_n C dL_law_856 3 rfl ?_
  obtain ⟨v283, ρ284, h285, hm⟩ := cll_e hm
  refine zx_callSH (σ := σ) C [.ref (x1), .int (xs (((x4) + (1)).toNatClampNeg)), .int (xs (((x4) + (2)).toNatClampNeg)), .int (xs (((x4) + (3)).toNatClampNeg)), .int (xs (((x4) + (4)).toNatClampNeg)), .ref (x3)] Y_L_fill W_5_163 W_5_164 (c_L_fill h285) (by decide) (by decide) rfl (Nat.le_of_ble_eq_true rfl) dL_law_857 rfl ?_
  refine zx_istore C [(5, .int (v283)), (0, .ref (b)), (1, .ref (x1)), (2, .ref (x2)), (3, .ref (x3)), (4, .int (x4))] dL_law_860 (by decide) rfl ?_
  refine zx_aload_n C dL_law_862 3 rfl ?_
  refine zx_aload_n C dL_law_863 1 rfl ?_
  refine zx_iload C dL_law_864 5 rfl ?_
  refine zx_iconst (v := 1) C dL_law_866 (by decide) ?_
  refine zx_iadd C dL_law_867 ?_
  obtain ⟨h286, hm⟩ := ckI_e hm
  refine zx_sld C hX hbb h286 dL_law_868 ?_
  refine zx_aload_n C dL_law_869 1 rfl ?_
  refine zx_iload C dL_law_870 5 rfl ?_
  refine zx_iconst (v := 2) C dL_law_872 (by decide) ?_
  refine zx_iadd C dL_law_873 ?_
  obtain ⟨h287, hm⟩ := ckI_e hm
  refine zx_sld C hX hbb h287 dL_law_874 ?_
  refine zx_aload_n C dL_law_875 1 rfl ?_
  refine zx_iload C dL_law_876 5 rfl ?_
  refine zx_iconst (v := 3) C dL_law_878 (by decide) ?_
  refine zx_iadd C dL_law_879 ?_
  obtain ⟨h288, hm⟩ := ckI_e hm
  refine zx_sld C hX hbb h288 dL_law_880 ?_
  refine zx_aload_n C dL_law_881 1 rfl ?_
  refine zx_iload C dL_law_882 5 rfl ?_
  refine zx_iconst (v := 4) C dL_law_884 (by decide) ?_
  refine zx_iadd C dL_law_885 ?_
  obtain ⟨h289, hm⟩ := ckI_e hm
  refine zx_sld C hX hbb h289 dL_law_886 ?_
  obtain ⟨k290, i291, hm⟩ := ckO_e hm
  obtain ⟨v292, ρ293, h294, hm⟩ := cll_e hm
  refine zx_callVH (σ := ρ284) C [.int (xs (((x4) + (1)).toNatClampNeg)), .int (xs (((x4) + (2)).toNatClampNeg)), .int (xs (((x4) + (3)).toNatClampNeg)), .int (xs (((x4) + (4)).toNatClampNeg))] tC_11 k290 i291 Y_X12_fill W_8_234 W_8_235 W_8_236 (c_X12_fill h294) (by decide) (by decide) rfl (Nat.le_of_ble_eq_true rfl) dL_law_887 rfl ?_
  refine zx_istore C [(6, .int (v292)), (5, .int (v283)), (0, .ref (b)), (1, .ref (x1)), (2, .ref (x2)), (3, .ref (x3)), (4, .int (x4))] dL_law_890 (by decide) rfl ?_
  refine zx_aload_n C dL_law_892 4 rfl ?_
  obtain ⟨k295, i296, hm⟩ := ckO_e hm
  obtain ⟨v297, ρ298, h299, hm⟩ := cll_e hm
  refine zx_callV (σ := ρ293) C [] tC_11 k295 i296 Y_X12_thrown W_6_190 W_6_191 W_6_192 (c_X12_thrown h299) (by decide) (by decide) rfl (Nat.le_of_ble_eq_true rfl) dL_law_893 rfl ?_
  refine zx_iload C dL_law_896 1 rfl ?_
  refine zx_icmp_eq C 903 dL_law_898 (by decide) (fun c300 => ?_) (fun c300 => ?_)
  · replace hm := ip_e hm c300
    refine zx_iload C dL_law_903 1 rfl ?_
    refine zx_if_ne C 920 dL_law_905 (by decide) (fun c301 => ?_) (fun c301 => ?_)
    · replace hm := in_e hm c301
      exact zx_lv [2, 3, 4, 5, 6] [(0, .ref (b)), (1, .ref (x1)), (2, .ref (x2)), (3, .ref (x3)), (4, .int (x4))] rfl (j_L_law_920 C htab hin hX hbb hrc23   hm)
    · replace hm := ip_e hm c301
      refine zx_aload_n C dL_law_908 5 rfl ?_
      refine zx_iconst (v := 0) C dL_law_909 (by decide) ?_
      obtain ⟨n304, k302, i303, hm⟩ := ckR_e hm
      obtain ⟨h305, hm⟩ := ckI_e hm
      refine zx_lald C k302 i303 h305 dL_law_910 ?_
      refine zx_iload C dL_law_911 0 rfl ?_
      refine zx_i2l C dL_law_913 ?_
      refine zx_lcmp C dL_law_914 ?_
      refine zx_if_eq C 920 dL_law_915 (by decide) (fun c306 => ?_) (fun c306 => ?_)
      · replace hm := ip_e hm c306
        exact zx_lv [2, 3, 4, 5, 6] [(0, .ref (b)), (1, .ref (x1)), (2, .ref (x2)), (3, .ref (x3)), (4, .int (x4))] rfl (j_L_law_920 C htab hin hX hbb hrc23   hm)
      · replace hm := in_e hm c306
        refine zx_iconst (v := 0) C dL_law_918 (by decide) ?_
        obtain ⟨rfl, rfl⟩ := ret_e hm
        exact zx_zret C rfl (by decide) rfl rfl dL_law_919
  · replace hm := in_e hm c300
    refine zx_iconst (v := 0) C dL_law_901 (by decide) ?_
    obtain ⟨rfl, rfl⟩ := ret_e hm
    exact zx_zret C rfl (by decide) rfl rfl dL_law_902
set_option maxRecDepth 100000 in
set_option maxHeartbeats 1000000 in
theorem j_L_law_988 {p : Program} {l : Launch} {e : Env} {s : State} {m : MethodId} {args : Array Value} {below : List Frame} {meth : Method} {c : Code} {D : va_G} {aC : Nat → ClassId} {b0 fu : Nat} {σ0 τ : tM} {v : Int32} {b L : Nat} {xs : Nat → Int32} {rc23 : Nat → Nat → Nat → Int32 → tM → Option ((Int32) × tM)} (C : tCx p l s m args meth c yL_law.cls cL_law 8 (some .boolean) D aC b0 σ0) (htab : True) (hin : True) (hX : va_X b L xs s s.heap) (hbb : b < b0) (hrc23 : ∀ (x1 : Nat) (x2 : Nat) (x3 : Nat) (x4 : Int32) (ρ : tM), rc23 x1 x2 x3 x4 ρ = some (v, τ) → tX p l e s m args below meth c 8 14 271 D aC b0 σ0 (.inl (some (.int v))) τ 23 [(0, .ref (b)), (1, .ref (x1)), (2, .ref (x2)), (3, .ref (x3)), (4, .int (x4))] [] ρ) {x1 : Nat} {x2 : Nat} {x3 : Nat} {x4 : Int32} {σ : tM} (hm : J_L_law_988 b0 fu L xs rc23 x1 x2 x3 x4 σ = some (v, τ)) : tX p l e s m args below meth c 8 14 271 D aC b0 σ0 (.inl (some (.int v))) τ 988 [(0, .ref (b)), (1, .ref (x1)), (2, .ref (x2)), (3, .ref (x3)), (4, .int (x4))] [] σ := by
  unfold J_L_law_988 at hm
  refine zx_goto C 2051 dL_law_988 (by decide) ?_
  exact zx_lv [0, 1, 2, 3, 4] [(0, .ref (b)), (1, .ref (x1)), (2, .ref (x2)), (3, .ref (x3)), (4, .int (x4))] rfl (j_L_law_2051 C htab hin hX hbb hrc23   hm)
set_option maxRecDepth 100000 in
set_option maxHeartbeats 1000000 in
theorem j_L_law_923 {p : Program} {l : Launch} {e : Env} {s : State} {m : MethodId} {args : Array Value} {below : List Frame} {meth : Method} {c : Code} {D : va_G} {aC : Nat → ClassId} {b0 fu : Nat} {σ0 τ : tM} {v : Int32} {b L : Nat} {xs : Nat → Int32} {rc23 : Nat → Nat → Nat → Int32 → tM → Option ((Int32) × tM)} (C : tCx p l s m args meth c yL_law.cls cL_law 8 (some .boolean) D aC b0 σ0) (htab : True) (hin : True) (hX : va_X b L xs s s.heap) (hbb : b < b0) (hrc23 : ∀ (x1 : Nat) (x2 : Nat) (x3 : Nat) (x4 : Int32) (ρ : tM), rc23 x1 x2 x3 x4 ρ = some (v, τ) → tX p l e s m args below meth c 8 14 271 D aC b0 σ0 (.inl (some (.int v))) τ 23 [(0, .ref (b)), (1, .ref (x1)), (2, .ref (x2)), (3, .ref (x3)), (4, .int (x4))] [] ρ) {x1 : Nat} {x2 : Nat} {x3 : Nat} {x4 : Int32} {σ : tM} (hm : J_L_law_923 b0 fu L xs rc23 x1 x2 x3 x4 σ = some (v, τ)) : tX p l e s m args below meth c 8 14 271 D aC b0 σ0 (.inl (some (.int v))) τ 923 [(0, .ref (b)), (1, .ref (x1)), (2, .ref (x2)), (3, .ref (x3)), (4, .int (x4))] [] σ := by
  unfold J_L_law_923 at hm
  refine zx_aload_n C dL_law_923 1 rfl ?_
  refine zx_aload_n C dL_law_924 0 rfl ?_
  refine zx_iload C dL_law_925 4 rfl ?_
  refine zx_iconst (v := 1) C dL_law_927 (by decide) ?_
  refine zx_iadd C dL_law_928 ?_
  obtain ⟨h307, hm⟩ := ckI_e hm
  refine zx_sld C hX hbb h307 dL_law_929 ?_
  refine zx_aload_n C dL_law_930 0 rfl ?_
  refine zx_iload C dL_law_931 4 rfl ?_
  refine zx_iconst (v := 2) C dL_law_933 (by decide) ?_
  refine zx_iadd C dL_law_934 ?_
  obtain ⟨h308, hm⟩ := ckI_e hm
  refine zx_sld C hX hbb h308 dL_law_935 ?_
  refine zx_aload_n C dL_law_936 3 rfl ?_
  obtain ⟨v309, ρ310, h311, hm⟩ := cll_e hm
  refine zx_callSH (σ := σ) C [.ref (x1), .int (xs (((x4) + (1)).toNatClampNeg)), .int (xs (((x4) + (2)).toNatClampNeg)), .ref (x3)] Y_L_truncate W_5_174 W_5_175 (c_L_truncate h311) (by decide) (by decide) rfl (Nat.le_of_ble_eq_true rfl) dL_law_937 rfl ?_
  refine zx_istore C [(5, .int (v309)), (0, .ref (b)), (1, .ref (x1)), (2, .ref (x2)), (3, .ref (x3)), (4, .int (x4))] dL_law_940 (by decide) rfl ?_
  refine zx_aload_n C dL_law_942 3 rfl ?_
  refine zx_aload_n C dL_law_943 1 rfl ?_
  refine zx_iload C dL_law_944 5 rfl ?_
  refine zx_iconst (v := 1) C dL_law_946 (by decide) ?_
  refine zx_iadd C dL_law_947 ?_
  obtain ⟨h312, hm⟩ := ckI_e hm
  refine zx_sld C hX hbb h312 dL_law_948 ?_
  refine zx_aload_n C dL_law_949 1 rfl ?_
  refine zx_iload C dL_law_950 5 rfl ?_
  refine zx_iconst (v := 2) C dL_law_952 (by decide) ?_
  refine zx_iadd C dL_law_953 ?_
  obtain ⟨h313, hm⟩ := ckI_e hm
  refine zx_sld C hX hbb h313 dL_law_954 ?_
  obtain ⟨k314, i315, hm⟩ := ckO_e hm
  obtain ⟨v316, ρ317, h318, hm⟩ := cll_e hm
  refine zx_callVH (σ := ρ310) C [.int (xs (((x4) + (1)).toNatClampNeg)), .int (xs (((x4) + (2)).toNatClampNeg))] tC_11 k314 i315 Y_X12_truncate W_8_238 W_8_239 W_9_0 (c_X12_truncate h318) (by decide) (by decide) rfl (Nat.le_of_ble_eq_true rfl) dL_law_955 rfl ?_
  refine zx_istore C [(6, .int (v316)), (5, .int (v309)), (0, .ref (b)), (1, .ref (x1)), (2, .ref (x2)), (3, .ref (x3)), (4, .int (x4))] dL_law_958 (by decide) rfl ?_
  refine zx_aload_n C dL_law_960 4 rfl ?_
  obtain ⟨k319, i320, hm⟩ := ckO_e hm
  obtain ⟨v321, ρ322, h323, hm⟩ := cll_e hm
  refine zx_callV (σ := ρ317) C [] tC_11 k319 i320 Y_X12_thrown W_6_190 W_6_191 W_6_192 (c_X12_thrown h323) (by decide) (by decide) rfl (Nat.le_of_ble_eq_true rfl) dL_law_961 rfl ?_
  refine zx_iload C dL_law_964 1 rfl ?_
  refine zx_icmp_eq C 971 dL_law_966 (by decide) (fun c324 => ?_) (fun c324 => ?_)
  · replace hm := ip_e hm c324
    refine zx_iload C dL_law_971 1 rfl ?_
    refine zx_if_ne C 988 dL_law_973 (by decide) (fun c325 => ?_) (fun c325 => ?_)
    · replace hm := in_e hm c325
      exact zx_lv [2, 3, 4, 5, 6] [(0, .ref (b)), (1, .ref (x1)), (2, .ref (x2)), (3, .ref (x3)), (4, .int (x4))] rfl (j_L_law_988 C htab hin hX hbb hrc23   hm)
    · replace hm := ip_e hm c325
      refine zx_aload_n C dL_law_976 5 rfl ?_
      refine zx_iconst (v := 0) C dL_law_977 (by decide) ?_
      obtain ⟨n328, k326, i327, hm⟩ := ckR_e hm
      obtain ⟨h329, hm⟩ := ckI_e hm
      refine zx_lald C k326 i327 h329 dL_law_978 ?_
      refine zx_iload C dL_law_979 0 rfl ?_
      refine zx_i2l C dL_law_981 ?_
      refine zx_lcmp C dL_law_982 ?_
      refine zx_if_eq C 988 dL_law_983 (by decide) (fun c330 => ?_) (fun c330 => ?_)
      · replace hm := ip_e hm c330
        exact zx_lv [2, 3, 4, 5, 6] [(0, .ref (b)), (1, .ref (x1)), (2, .ref (x2)), (3, .ref (x3)), (4, .int (x4))] rfl (j_L_law_988 C htab hin hX hbb hrc23   hm)
      · replace hm := in_e hm c330
        refine zx_iconst (v := 0) C dL_law_986 (by decide) ?_
        obtain ⟨rfl, rfl⟩ := ret_e hm
        exact zx_zret C rfl (by decide) rfl rfl dL_law_987
  · replace hm := in_e hm c324
    refine zx_iconst (v := 0) C dL_law_969 (by decide) ?_
    obtain ⟨rfl, rfl⟩ := ret_e hm
    exact zx_zret C rfl (by decide) rfl rfl dL_law_970
set_option maxRecDepth 100000 in
set_option maxHeartbeats 1000000 in
theorem j_L_law_1056 {p : Program} {l : Launch} {e : Env} {s : State} {m : MethodId} {args : Array Value} {below : List Frame} {meth : Method} {c : Code} {D : va_G} {aC : Nat → ClassId} {b0 fu : Nat} {σ0 τ : tM} {v : Int32} {b L : Nat} {xs : Nat → Int32} {rc23 : Nat → Nat → Nat → Int32 → tM → Option ((Int32) × tM)} (C : tCx p l s m args meth c yL_law.cls cL_law 8 (some .boolean) D aC b0 σ0) (htab : True) (hin : True) (hX : va_X b L xs s s.heap) (hbb : b < b0) (hrc23 : ∀ (x1 : Nat) (x2 : Nat) (x3 : Nat) (x4 : Int32) (ρ : tM), rc23 x1 x2 x3 x4 ρ = some (v, τ) → tX p l e s m args below meth c 8 14 271 D aC b0 σ0 (.inl (some (.int v))) τ 23 [(0, .ref (b)), (1, .ref (x1)), (2, .ref (x2)), (3, .ref (x3)), (4, .int (x4))] [] ρ) {x1 : Nat} {x2 : Nat} {x3 : Nat} {x4 : Int32} {σ : tM} (hm : J_L_law_1056 b0 fu L xs rc23 x1 x2 x3 x4 σ = some (v, τ)) : tX p l e s m args below meth c 8 14 271 D aC b0 σ0 (.inl (some (.int v))) τ 1056 [(0, .ref (b)), (1, .ref (x1)), (2, .ref (x2)), (3, .ref (x3)), (4, .int (x4))] [] σ := by
  unfold J_L_law_1056 at hm
  refine zx_goto C 2051 dL_law_1056 (by decide) ?_
  exact zx_lv [0, 1, 2, 3, 4] [(0, .ref (b)), (1, .ref (x1)), (2, .ref (x2)), (3, .ref (x3)), (4, .int (x4))] rfl (j_L_law_2051 C htab hin hX hbb hrc23   hm)
set_option maxRecDepth 100000 in
set_option maxHeartbeats 1000000 in
theorem j_L_law_991 {p : Program} {l : Launch} {e : Env} {s : State} {m : MethodId} {args : Array Value} {below : List Frame} {meth : Method} {c : Code} {D : va_G} {aC : Nat → ClassId} {b0 fu : Nat} {σ0 τ : tM} {v : Int32} {b L : Nat} {xs : Nat → Int32} {rc23 : Nat → Nat → Nat → Int32 → tM → Option ((Int32) × tM)} (C : tCx p l s m args meth c yL_law.cls cL_law 8 (some .boolean) D aC b0 σ0) (htab : True) (hin : True) (hX : va_X b L xs s s.heap) (hbb : b < b0) (hrc23 : ∀ (x1 : Nat) (x2 : Nat) (x3 : Nat) (x4 : Int32) (ρ : tM), rc23 x1 x2 x3 x4 ρ = some (v, τ) → tX p l e s m args below meth c 8 14 271 D aC b0 σ0 (.inl (some (.int v))) τ 23 [(0, .ref (b)), (1, .ref (x1)), (2, .ref (x2)), (3, .ref (x3)), (4, .int (x4))] [] ρ) {x1 : Nat} {x2 : Nat} {x3 : Nat} {x4 : Int32} {σ : tM} (hm : J_L_law_991 b0 fu L xs rc23 x1 x2 x3 x4 σ = some (v, τ)) : tX p l e s m args below meth c 8 14 271 D aC b0 σ0 (.inl (some (.int v))) τ 991 [(0, .ref (b)), (1, .ref (x1)), (2, .ref (x2)), (3, .ref (x3)), (4, .int (x4))] [] σ := by
  unfold J_L_law_991 at hm
  refine zx_aload_n C dL_law_991 1 rfl ?_
  refine zx_aload_n C dL_law_992 0 rfl ?_
  refine zx_iload C dL_law_993 4 rfl ?_
  refine zx_iconst (v := 1) C dL_law_995 (by decide) ?_
  refine zx_iadd C dL_law_996 ?_
  obtain ⟨h331, hm⟩ := ckI_e hm
  refine zx_sld C hX hbb h331 dL_law_997 ?_
  refine zx_aload_n C dL_law_998 0 rfl ?_
  refine zx_iload C dL_law_999 4 rfl ?_
  refine zx_iconst (v := 2) C dL_law_1001 (by decide) ?_
  refine zx_iadd C dL_law_1002 ?_
  obtain ⟨h332, hm⟩ := ckI_e hm
  refine zx_sld C hX hbb h332 dL_law_1003 ?_
  refine zx_aload_n C dL_law_1004 3 rfl ?_
  obtain ⟨v333, ρ334, h335, hm⟩ := cll_e hm
  refine zx_callSH (σ := σ) C [.ref (x1), .int (xs (((x4) + (1)).toNatClampNeg)), .int (xs (((x4) + (2)).toNatClampNeg)), .ref (x3)] Y_L_byteAt W_5_182 W_5_183 (c_L_byteAt h335) (by decide) (by decide) rfl (Nat.le_of_ble_eq_true rfl) dL_law_1005 rfl ?_
  refine zx_istore C [(5, .int (v333)), (0, .ref (b)), (1, .ref (x1)), (2, .ref (x2)), (3, .ref (x3)), (4, .int (x4))] dL_law_1008 (by decide) rfl ?_
  refine zx_aload_n C dL_law_1010 3 rfl ?_
  refine zx_aload_n C dL_law_1011 1 rfl ?_
  refine zx_iload C dL_law_1012 5 rfl ?_
  refine zx_iconst (v := 1) C dL_law_1014 (by decide) ?_
  refine zx_iadd C dL_law_1015 ?_
  obtain ⟨h336, hm⟩ := ckI_e hm
  refine zx_sld C hX hbb h336 dL_law_1016 ?_
  refine zx_aload_n C dL_law_1017 1 rfl ?_
  refine zx_iload C dL_law_1018 5 rfl ?_
  refine zx_iconst (v := 2) C dL_law_1020 (by decide) ?_
  refine zx_iadd C dL_law_1021 ?_
  obtain ⟨h337, hm⟩ := ckI_e hm
  refine zx_sld C hX hbb h337 dL_law_1022 ?_
  obtain ⟨k338, i339, hm⟩ := ckO_e hm
  obtain ⟨v340, ρ341, h342, hm⟩ := cll_e hm
  refine zx_callVH (σ := ρ334) C [.int (xs (((x4) + (1)).toNatClampNeg)), .int (xs (((x4) + (2)).toNatClampNeg))] tC_11 k338 i339 Y_X12_byteAt W_9_2 W_9_3 W_9_4 (c_X12_byteAt h342) (by decide) (by decide) rfl (Nat.le_of_ble_eq_true rfl) dL_law_1023 rfl ?_
  refine zx_istore C [(6, .int (v340)), (5, .int (v333)), (0, .ref (b)), (1, .ref (x1)), (2, .ref (x2)), (3, .ref (x3)), (4, .int (x4))] dL_law_1026 (by decide) rfl ?_
  refine zx_aload_n C dL_law_1028 4 rfl ?_
  obtain ⟨k343, i344, hm⟩ := ckO_e hm
  obtain ⟨v345, ρ346, h347, hm⟩ := cll_e hm
  refine zx_callV (σ := ρ341) C [] tC_11 k343 i344 Y_X12_thrown W_6_190 W_6_191 W_6_192 (c_X12_thrown h347) (by decide) (by decide) rfl (Nat.le_of_ble_eq_true rfl) dL_law_1029 rfl ?_
  refine zx_iload C dL_law_1032 1 rfl ?_
  refine zx_icmp_eq C 1039 dL_law_1034 (by decide) (fun c348 => ?_) (fun c348 => ?_)
  · replace hm := ip_e hm c348
    refine zx_iload C dL_law_1039 1 rfl ?_
    refine zx_if_ne C 1056 dL_law_1041 (by decide) (fun c349 => ?_) (fun c349 => ?_)
    · replace hm := in_e hm c349
      exact zx_lv [2, 3, 4, 5, 6] [(0, .ref (b)), (1, .ref (x1)), (2, .ref (x2)), (3, .ref (x3)), (4, .int (x4))] rfl (j_L_law_1056 C htab hin hX hbb hrc23   hm)
    · replace hm := ip_e hm c349
      refine zx_aload_n C dL_law_1044 5 rfl ?_
      refine zx_iconst (v := 0) C dL_law_1045 (by decide) ?_
      obtain ⟨n352, k350, i351, hm⟩ := ckR_e hm
      obtain ⟨h353, hm⟩ := ckI_e hm
      refine zx_lald C k350 i351 h353 dL_law_1046 ?_
      refine zx_iload C dL_law_1047 0 rfl ?_
      refine zx_i2l C dL_law_1049 ?_
      refine zx_lcmp C dL_law_1050 ?_
      refine zx_if_eq C 1056 dL_law_1051 (by decide) (fun c354 => ?_) (fun c354 => ?_)
      · replace hm := ip_e hm c354
        exact zx_lv [2, 3, 4, 5, 6] [(0, .ref (b)), (1, .ref (x1)), (2, .ref (x2)), (3, .ref (x3)), (4, .int (x4))] rfl (j_L_law_1056 C htab hin hX hbb hrc23   hm)
      · replace hm := in_e hm c354
        refine zx_iconst (v := 0) C dL_law_1054 (by decide) ?_
        obtain ⟨rfl, rfl⟩ := ret_e hm
        exact zx_zret C rfl (by decide) rfl rfl dL_law_1055
  · replace hm := in_e hm c348
    refine zx_iconst (v := 0) C dL_law_1037 (by decide) ?_
    obtain ⟨rfl, rfl⟩ := ret_e hm
    exact zx_zret C rfl (by decide) rfl rfl dL_law_1038
set_option maxRecDepth 100000 in
set_option maxHeartbeats 1000000 in
theorem j_L_law_1135 {p : Program} {l : Launch} {e : Env} {s : State} {m : MethodId} {args : Array Value} {below : List Frame} {meth : Method} {c : Code} {D : va_G} {aC : Nat → ClassId} {b0 fu : Nat} {σ0 τ : tM} {v : Int32} {b L : Nat} {xs : Nat → Int32} {rc23 : Nat → Nat → Nat → Int32 → tM → Option ((Int32) × tM)} (C : tCx p l s m args meth c yL_law.cls cL_law 8 (some .boolean) D aC b0 σ0) (htab : True) (hin : True) (hX : va_X b L xs s s.heap) (hbb : b < b0) (hrc23 : ∀ (x1 : Nat) (x2 : Nat) (x3 : Nat) (x4 : Int32) (ρ : tM), rc23 x1 x2 x3 x4 ρ = some (v, τ) → tX p l e s m args below meth c 8 14 271 D aC b0 σ0 (.inl (some (.int v))) τ 23 [(0, .ref (b)), (1, .ref (x1)), (2, .ref (x2)), (3, .ref (x3)), (4, .int (x4))] [] ρ) {x1 : Nat} {x2 : Nat} {x3 : Nat} {x4 : Int32} {σ : tM} (hm : J_L_law_1135 b0 fu L xs rc23 x1 x2 x3 x4 σ = some (v, τ)) : tX p l e s m args below meth c 8 14 271 D aC b0 σ0 (.inl (some (.int v))) τ 1135 [(0, .ref (b)), (1, .ref (x1)), (2, .ref (x2)), (3, .ref (x3)), (4, .int (x4))] [] σ := by
  unfold J_L_law_1135 at hm
  refine zx_goto C 2051 dL_law_1135 (by decide) ?_
  exact zx_lv [0, 1, 2, 3, 4] [(0, .ref (b)), (1, .ref (x1)), (2, .ref (x2)), (3, .ref (x3)), (4, .int (x4))] rfl (j_L_law_2051 C htab hin hX hbb hrc23   hm)
set_option maxRecDepth 100000 in
set_option maxHeartbeats 1000000 in
theorem j_L_law_1059 {p : Program} {l : Launch} {e : Env} {s : State} {m : MethodId} {args : Array Value} {below : List Frame} {meth : Method} {c : Code} {D : va_G} {aC : Nat → ClassId} {b0 fu : Nat} {σ0 τ : tM} {v : Int32} {b L : Nat} {xs : Nat → Int32} {rc23 : Nat → Nat → Nat → Int32 → tM → Option ((Int32) × tM)} (C : tCx p l s m args meth c yL_law.cls cL_law 8 (some .boolean) D aC b0 σ0) (htab : True) (hin : True) (hX : va_X b L xs s s.heap) (hbb : b < b0) (hrc23 : ∀ (x1 : Nat) (x2 : Nat) (x3 : Nat) (x4 : Int32) (ρ : tM), rc23 x1 x2 x3 x4 ρ = some (v, τ) → tX p l e s m args below meth c 8 14 271 D aC b0 σ0 (.inl (some (.int v))) τ 23 [(0, .ref (b)), (1, .ref (x1)), (2, .ref (x2)), (3, .ref (x3)), (4, .int (x4))] [] ρ) {x1 : Nat} {x2 : Nat} {x3 : Nat} {x4 : Int32} {σ : tM} (hm : J_L_law_1059 b0 fu L xs rc23 x1 x2 x3 x4 σ = some (v, τ)) : tX p l e s m args below meth c 8 14 271 D aC b0 σ0 (.inl (some (.int v))) τ 1059 [(0, .ref (b)), (1, .ref (x1)), (2, .ref (x2)), (3, .ref (x3)), (4, .int (x4))] [] σ := by
  unfold J_L_law_1059 at hm
  refine zx_aload_n C dL_law_1059 1 rfl ?_
  refine zx_aload_n C dL_law_1060 0 rfl ?_
  refine zx_iload C dL_law_1061 4 rfl ?_
  refine zx_iconst (v := 1) C dL_law_1063 (by decide) ?_
  refine zx_iadd C dL_law_1064 ?_
  obtain ⟨h355, hm⟩ := ckI_e hm
  refine zx_sld C hX hbb h355 dL_law_1065 ?_
  refine zx_aload_n C dL_law_1066 0 rfl ?_
  refine zx_iload C dL_law_1067 4 rfl ?_
  refine zx_iconst (v := 2) C dL_law_1069 (by decide) ?_
  refine zx_iadd C dL_law_1070 ?_
  obtain ⟨h356, hm⟩ := ckI_e hm
  refine zx_sld C hX hbb h356 dL_law_1071 ?_
  refine zx_aload_n C dL_law_1072 0 rfl ?_
  refine zx_iload C dL_law_1073 4 rfl ?_
  refine zx_iconst (v := 3) C dL_law_1075 (by decide) ?_
  refine zx_iadd C dL_law_1076 ?_
  obtain ⟨h357, hm⟩ := ckI_e hm
  refine zx_sld C hX hbb h357 dL_law_1077 ?_
  refine zx_aload_n C dL_law_1078 3 rfl ?_
  obtain ⟨v358, ρ359, h360, hm⟩ := cll_e hm
  refine zx_callSH (σ := σ) C [.ref (x1), .int (xs (((x4) + (1)).toNatClampNeg)), .int (xs (((x4) + (2)).toNatClampNeg)), .int (xs (((x4) + (3)).toNatClampNeg)), .ref (x3)] Y_L_sum W_5_193 W_5_194 (c_L_sum h360) (by decide) (by decide) rfl (Nat.le_of_ble_eq_true rfl) dL_law_1079 rfl ?_
  refine zx_istore C [(5, .int (v358)), (0, .ref (b)), (1, .ref (x1)), (2, .ref (x2)), (3, .ref (x3)), (4, .int (x4))] dL_law_1082 (by decide) rfl ?_
  refine zx_aload_n C dL_law_1084 3 rfl ?_
  refine zx_aload_n C dL_law_1085 1 rfl ?_
  refine zx_iload C dL_law_1086 5 rfl ?_
  refine zx_iconst (v := 1) C dL_law_1088 (by decide) ?_
  refine zx_iadd C dL_law_1089 ?_
  obtain ⟨h361, hm⟩ := ckI_e hm
  refine zx_sld C hX hbb h361 dL_law_1090 ?_
  refine zx_aload_n C dL_law_1091 1 rfl ?_
  refine zx_iload C dL_law_1092 5 rfl ?_
  refine zx_iconst (v := 2) C dL_law_1094 (by decide) ?_
  refine zx_iadd C dL_law_1095 ?_
  obtain ⟨h362, hm⟩ := ckI_e hm
  refine zx_sld C hX hbb h362 dL_law_1096 ?_
  refine zx_aload_n C dL_law_1097 1 rfl ?_
  refine zx_iload C dL_law_1098 5 rfl ?_
  refine zx_iconst (v := 3) C dL_law_1100 (by decide) ?_
  refine zx_iadd C dL_law_1101 ?_
  obtain ⟨h363, hm⟩ := ckI_e hm
  refine zx_sld C hX hbb h363 dL_law_1102 ?_
  obtain ⟨k364, i365, hm⟩ := ckO_e hm
  obtain ⟨v366, ρ367, h368, hm⟩ := cll_e hm
  refine zx_callVH (σ := ρ359) C [.int (xs (((x4) + (1)).toNatClampNeg)), .int (xs (((x4) + (2)).toNatClampNeg)), .int (xs (((x4) + (3)).toNatClampNeg))] tC_11 k364 i365 Y_X12_sum W_9_10 W_9_11 W_9_12 (c_X12_sum h368) (by decide) (by decide) rfl (Nat.le_of_ble_eq_true rfl) dL_law_1103 rfl ?_
  refine zx_lstore C [(6, .long (v366)), (5, .int (v358)), (0, .ref (b)), (1, .ref (x1)), (2, .ref (x2)), (3, .ref (x3)), (4, .int (x4))] dL_law_1106 (by decide) rfl ?_
  refine zx_aload_n C dL_law_1108 4 rfl ?_
  obtain ⟨k369, i370, hm⟩ := ckO_e hm
  obtain ⟨v371, ρ372, h373, hm⟩ := cll_e hm
  refine zx_callV (σ := ρ367) C [] tC_11 k369 i370 Y_X12_thrown W_6_190 W_6_191 W_6_192 (c_X12_thrown h373) (by decide) (by decide) rfl (Nat.le_of_ble_eq_true rfl) dL_law_1109 rfl ?_
  refine zx_iload C dL_law_1112 1 rfl ?_
  refine zx_icmp_eq C 1119 dL_law_1114 (by decide) (fun c374 => ?_) (fun c374 => ?_)
  · replace hm := ip_e hm c374
    refine zx_iload C dL_law_1119 1 rfl ?_
    refine zx_if_ne C 1135 dL_law_1121 (by decide) (fun c375 => ?_) (fun c375 => ?_)
    · replace hm := in_e hm c375
      exact zx_lv [2, 3, 4, 5, 6] [(0, .ref (b)), (1, .ref (x1)), (2, .ref (x2)), (3, .ref (x3)), (4, .int (x4))] rfl (j_L_law_1135 C htab hin hX hbb hrc23   hm)
    · replace hm := ip_e hm c375
      refine zx_aload_n C dL_law_1124 5 rfl ?_
      refine zx_iconst (v := 0) C dL_law_1125 (by decide) ?_
      obtain ⟨n378, k376, i377, hm⟩ := ckR_e hm
      obtain ⟨h379, hm⟩ := ckI_e hm
      refine zx_lald C k376 i377 h379 dL_law_1126 ?_
      refine zx_lload C dL_law_1127 0 rfl ?_
      refine zx_lcmp C dL_law_1129 ?_
      refine zx_if_eq C 1135 dL_law_1130 (by decide) (fun c380 => ?_) (fun c380 => ?_)
      · replace hm := ip_e hm c380
        exact zx_lv [2, 3, 4, 5, 6] [(0, .ref (b)), (1, .ref (x1)), (2, .ref (x2)), (3, .ref (x3)), (4, .int (x4))] rfl (j_L_law_1135 C htab hin hX hbb hrc23   hm)
      · replace hm := in_e hm c380
        refine zx_iconst (v := 0) C dL_law_1133 (by decide) ?_
        obtain ⟨rfl, rfl⟩ := ret_e hm
        exact zx_zret C rfl (by decide) rfl rfl dL_law_1134
  · replace hm := in_e hm c374
    refine zx_iconst (v := 0) C dL_law_1117 (by decide) ?_
    obtain ⟨rfl, rfl⟩ := ret_e hm
    exact zx_zret C rfl (by decide) rfl rfl dL_law_1118
set_option maxRecDepth 100000 in
set_option maxHeartbeats 1000000 in
theorem j_L_law_1219 {p : Program} {l : Launch} {e : Env} {s : State} {m : MethodId} {args : Array Value} {below : List Frame} {meth : Method} {c : Code} {D : va_G} {aC : Nat → ClassId} {b0 fu : Nat} {σ0 τ : tM} {v : Int32} {b L : Nat} {xs : Nat → Int32} {rc23 : Nat → Nat → Nat → Int32 → tM → Option ((Int32) × tM)} (C : tCx p l s m args meth c yL_law.cls cL_law 8 (some .boolean) D aC b0 σ0) (htab : True) (hin : True) (hX : va_X b L xs s s.heap) (hbb : b < b0) (hrc23 : ∀ (x1 : Nat) (x2 : Nat) (x3 : Nat) (x4 : Int32) (ρ : tM), rc23 x1 x2 x3 x4 ρ = some (v, τ) → tX p l e s m args below meth c 8 14 271 D aC b0 σ0 (.inl (some (.int v))) τ 23 [(0, .ref (b)), (1, .ref (x1)), (2, .ref (x2)), (3, .ref (x3)), (4, .int (x4))] [] ρ) {x1 : Nat} {x2 : Nat} {x3 : Nat} {x4 : Int32} {σ : tM} (hm : J_L_law_1219 b0 fu L xs rc23 x1 x2 x3 x4 σ = some (v, τ)) : tX p l e s m args below meth c 8 14 271 D aC b0 σ0 (.inl (some (.int v))) τ 1219 [(0, .ref (b)), (1, .ref (x1)), (2, .ref (x2)), (3, .ref (x3)), (4, .int (x4))] [] σ := by
  unfold J_L_law_1219 at hm
  refine zx_goto C 2051 dL_law_1219 (by decide) ?_
  exact zx_lv [0, 1, 2, 3, 4] [(0, .ref (b)), (1, .ref (x1)), (2, .ref (x2)), (3, .ref (x3)), (4, .int (x4))] rfl (j_L_law_2051 C htab hin hX hbb hrc23   hm)
set_option maxRecDepth 100000 in
set_option maxHeartbeats 1000000 in
theorem j_L_law_1186 {p : Program} {l : Launch} {e : Env} {s : State} {m : MethodId} {args : Array Value} {below : List Frame} {meth : Method} {c : Code} {D : va_G} {aC : Nat → ClassId} {b0 fu : Nat} {σ0 τ : tM} {v : Int32} {b L : Nat} {xs : Nat → Int32} {rc23 : Nat → Nat → Nat → Int32 → tM → Option ((Int32) × tM)} (C : tCx p l s m args meth c yL_law.cls cL_law 8 (some .boolean) D aC b0 σ0) (htab : True) (hin : True) (hX : va_X b L xs s s.heap) (hbb : b < b0) (hrc23 : ∀ (x1 : Nat) (x2 : Nat) (x3 : Nat) (x4 : Int32) (ρ : tM), rc23 x1 x2 x3 x4 ρ = some (v, τ) → tX p l e s m args below meth c 8 14 271 D aC b0 σ0 (.inl (some (.int v))) τ 23 [(0, .ref (b)), (1, .ref (x1)), (2, .ref (x2)), (3, .ref (x3)), (4, .int (x4))] [] ρ) {x1 : Nat} {x2 : Nat} {x3 : Nat} {x4 : Int32} {x5 : Int32} {s0 : Nat} {s1 : Int32} {s2 : Int32} {σ : tM} (hm : J_L_law_1186 b0 fu L xs rc23 x1 x2 x3 x4 x5 s0 s1 s2 σ = some (v, τ)) : tX p l e s m args below meth c 8 14 271 D aC b0 σ0 (.inl (some (.int v))) τ 1186 [(0, .ref (b)), (1, .ref (x1)), (2, .ref (x2)), (3, .ref (x3)), (4, .int (x4)), (5, .int (x5))] [.int (s2), .int (s1), .ref (s0)] σ := by
  unfold J_L_law_1186 at hm
  obtain ⟨k390, i391, hm⟩ := ckO_e hm
  obtain ⟨v392, ρ393, h394, hm⟩ := cll_e hm
  refine zx_callVH (σ := σ) C [.int (s1), .int (s2)] tC_11 k390 i391 Y_X12_info W_9_16 W_9_17 W_9_18 (c_X12_info h394) (by decide) (by decide) rfl (Nat.le_of_ble_eq_true rfl) dL_law_1186 rfl ?_
  refine zx_istore C [(6, .int (v392)), (0, .ref (b)), (1, .ref (x1)), (2, .ref (x2)), (3, .ref (x3)), (4, .int (x4)), (5, .int (x5))] dL_law_1189 (by decide) rfl ?_
  refine zx_aload_n C dL_law_1191 3 rfl ?_
  obtain ⟨k395, i396, hm⟩ := ckO_e hm
  obtain ⟨v397, ρ398, h399, hm⟩ := cll_e hm
  refine zx_callV (σ := ρ393) C [] tC_11 k395 i396 Y_X12_thrown W_6_190 W_6_191 W_6_192 (c_X12_thrown h399) (by decide) (by decide) rfl (Nat.le_of_ble_eq_true rfl) dL_law_1192 rfl ?_
  refine zx_iload C dL_law_1195 6 rfl ?_
  refine zx_icmp_eq C 1202 dL_law_1197 (by decide) (fun c400 => ?_) (fun c400 => ?_)
  · replace hm := ip_e hm c400
    refine zx_iload C dL_law_1202 6 rfl ?_
    refine zx_if_ne C 1219 dL_law_1204 (by decide) (fun c401 => ?_) (fun c401 => ?_)
    · replace hm := in_e hm c401
      exact zx_lv [1, 2, 3, 4, 5] [(0, .ref (b)), (1, .ref (x1)), (2, .ref (x2)), (3, .ref (x3)), (4, .int (x4))] rfl (j_L_law_1219 C htab hin hX hbb hrc23   hm)
    · replace hm := ip_e hm c401
      refine zx_aload_n C dL_law_1207 4 rfl ?_
      refine zx_iconst (v := 0) C dL_law_1208 (by decide) ?_
      obtain ⟨n404, k402, i403, hm⟩ := ckR_e hm
      obtain ⟨h405, hm⟩ := ckI_e hm
      refine zx_lald C k402 i403 h405 dL_law_1209 ?_
      refine zx_iload C dL_law_1210 0 rfl ?_
      refine zx_i2l C dL_law_1212 ?_
      refine zx_lcmp C dL_law_1213 ?_
      refine zx_if_eq C 1219 dL_law_1214 (by decide) (fun c406 => ?_) (fun c406 => ?_)
      · replace hm := ip_e hm c406
        exact zx_lv [1, 2, 3, 4, 5] [(0, .ref (b)), (1, .ref (x1)), (2, .ref (x2)), (3, .ref (x3)), (4, .int (x4))] rfl (j_L_law_1219 C htab hin hX hbb hrc23   hm)
      · replace hm := in_e hm c406
        refine zx_iconst (v := 0) C dL_law_1217 (by decide) ?_
        obtain ⟨rfl, rfl⟩ := ret_e hm
        exact zx_zret C rfl (by decide) rfl rfl dL_law_1218
  · replace hm := in_e hm c400
    refine zx_iconst (v := 0) C dL_law_1200 (by decide) ?_
    obtain ⟨rfl, rfl⟩ := ret_e hm
    exact zx_zret C rfl (by decide) rfl rfl dL_law_1201
set_option maxRecDepth 100000 in
set_option maxHeartbeats 1000000 in
theorem j_L_law_1159 {p : Program} {l : Launch} {e : Env} {s : State} {m : MethodId} {args : Array Value} {below : List Frame} {meth : Method} {c : Code} {D : va_G} {aC : Nat → ClassId} {b0 fu : Nat} {σ0 τ : tM} {v : Int32} {b L : Nat} {xs : Nat → Int32} {rc23 : Nat → Nat → Nat → Int32 → tM → Option ((Int32) × tM)} (C : tCx p l s m args meth c yL_law.cls cL_law 8 (some .boolean) D aC b0 σ0) (htab : True) (hin : True) (hX : va_X b L xs s s.heap) (hbb : b < b0) (hrc23 : ∀ (x1 : Nat) (x2 : Nat) (x3 : Nat) (x4 : Int32) (ρ : tM), rc23 x1 x2 x3 x4 ρ = some (v, τ) → tX p l e s m args below meth c 8 14 271 D aC b0 σ0 (.inl (some (.int v))) τ 23 [(0, .ref (b)), (1, .ref (x1)), (2, .ref (x2)), (3, .ref (x3)), (4, .int (x4))] [] ρ) {x1 : Nat} {x2 : Nat} {x3 : Nat} {x4 : Int32} {s0 : Nat} {s1 : Int32} {s2 : Int32} {σ : tM} (hm : J_L_law_1159 b0 fu L xs rc23 x1 x2 x3 x4 s0 s1 s2 σ = some (v, τ)) : tX p l e s m args below meth c 8 14 271 D aC b0 σ0 (.inl (some (.int v))) τ 1159 [(0, .ref (b)), (1, .ref (x1)), (2, .ref (x2)), (3, .ref (x3)), (4, .int (x4))] [.int (s2), .int (s1), .ref (s0)] σ := by
  unfold J_L_law_1159 at hm
  refine zx_aload_n C dL_law_1159 3 rfl ?_
  obtain ⟨v384, ρ385, h386, hm⟩ := cll_e hm
  refine zx_callSH (σ := σ) C [.ref (s0), .int (s1), .int (s2), .ref (x3)] Y_L_info W_5_209 W_5_210 (c_L_info h386) (by decide) (by decide) rfl (Nat.le_of_ble_eq_true rfl) dL_law_1160 rfl ?_
  refine zx_istore C [(5, .int (v384)), (0, .ref (b)), (1, .ref (x1)), (2, .ref (x2)), (3, .ref (x3)), (4, .int (x4))] dL_law_1163 (by decide) rfl ?_
  refine zx_aload_n C dL_law_1165 3 rfl ?_
  refine zx_aload_n C dL_law_1166 1 rfl ?_
  refine zx_iload C dL_law_1167 5 rfl ?_
  refine zx_iconst (v := 1) C dL_law_1169 (by decide) ?_
  refine zx_iadd C dL_law_1170 ?_
  obtain ⟨h387, hm⟩ := ckI_e hm
  refine zx_sld C hX hbb h387 dL_law_1171 ?_
  refine zx_aload_n C dL_law_1172 1 rfl ?_
  refine zx_iload C dL_law_1173 5 rfl ?_
  refine zx_iconst (v := 2) C dL_law_1175 (by decide) ?_
  refine zx_iadd C dL_law_1176 ?_
  obtain ⟨h388, hm⟩ := ckI_e hm
  refine zx_sld C hX hbb h388 dL_law_1177 ?_
  refine zx_if_eq C 1185 dL_law_1178 (by decide) (fun c389 => ?_) (fun c389 => ?_)
  · replace hm := ip_e hm c389
    refine zx_iconst (v := 0) C dL_law_1185 (by decide) ?_
    exact zx_lv [1, 2, 3, 4, 5, 0] [(0, .ref (b)), (1, .ref (x1)), (2, .ref (x2)), (3, .ref (x3)), (4, .int (x4)), (5, .int (v384))] rfl (j_L_law_1186 C htab hin hX hbb hrc23   hm)
  · replace hm := in_e hm c389
    refine zx_iconst (v := 1) C dL_law_1181 (by decide) ?_
    refine zx_goto C 1186 dL_law_1182 (by decide) ?_
    exact zx_lv [1, 2, 3, 4, 5, 0] [(0, .ref (b)), (1, .ref (x1)), (2, .ref (x2)), (3, .ref (x3)), (4, .int (x4)), (5, .int (v384))] rfl (j_L_law_1186 C htab hin hX hbb hrc23   hm)
set_option maxRecDepth 100000 in
set_option maxHeartbeats 1000000 in
theorem j_L_law_1138 {p : Program} {l : Launch} {e : Env} {s : State} {m : MethodId} {args : Array Value} {below : List Frame} {meth : Method} {c : Code} {D : va_G} {aC : Nat → ClassId} {b0 fu : Nat} {σ0 τ : tM} {v : Int32} {b L : Nat} {xs : Nat → Int32} {rc23 : Nat → Nat → Nat → Int32 → tM → Option ((Int32) × tM)} (C : tCx p l s m args meth c yL_law.cls cL_law 8 (some .boolean) D aC b0 σ0) (htab : True) (hin : True) (hX : va_X b L xs s s.heap) (hbb : b < b0) (hrc23 : ∀ (x1 : Nat) (x2 : Nat) (x3 : Nat) (x4 : Int32) (ρ : tM), rc23 x1 x2 x3 x4 ρ = some (v, τ) → tX p l e s m args below meth c 8 14 271 D aC b0 σ0 (.inl (some (.int v))) τ 23 [(0, .ref (b)), (1, .ref (x1)), (2, .ref (x2)), (3, .ref (x3)), (4, .int (x4))] [] ρ) {x1 : Nat} {x2 : Nat} {x3 : Nat} {x4 : Int32} {σ : tM} (hm : J_L_law_1138 b0 fu L xs rc23 x1 x2 x3 x4 σ = some (v, τ)) : tX p l e s m args below meth c 8 14 271 D aC b0 σ0 (.inl (some (.int v))) τ 1138 [(0, .ref (b)), (1, .ref (x1)), (2, .ref (x2)), (3, .ref (x3)), (4, .int (x4))] [] σ := by
  unfold J_L_law_1138 at hm
  refine zx_aload_n C dL_law_1138 1 rfl ?_
  refine zx_aload_n C dL_law_1139 0 rfl ?_
  refine zx_iload C dL_law_1140 4 rfl ?_
  refine zx_iconst (v := 1) C dL_law_1142 (by decide) ?_
  refine zx_iadd C dL_law_1143 ?_
  obtain ⟨h381, hm⟩ := ckI_e hm
  refine zx_sld C hX hbb h381 dL_law_1144 ?_
  refine zx_aload_n C dL_law_1145 0 rfl ?_
  refine zx_iload C dL_law_1146 4 rfl ?_
  refine zx_iconst (v := 2) C dL_law_1148 (by decide) ?_
  refine zx_iadd C dL_law_1149 ?_
  obtain ⟨h382, hm⟩ := ckI_e hm
  refine zx_sld C hX hbb h382 dL_law_1150 ?_
  refine zx_if_eq C 1158 dL_law_1151 (by decide) (fun c383 => ?_) (fun c383 => ?_)
  · replace hm := ip_e hm c383
    refine zx_iconst (v := 0) C dL_law_1158 (by decide) ?_
    exact zx_lv [0, 1, 2, 3, 4] [(0, .ref (b)), (1, .ref (x1)), (2, .ref (x2)), (3, .ref (x3)), (4, .int (x4))] rfl (j_L_law_1159 C htab hin hX hbb hrc23   hm)
  · replace hm := in_e hm c383
    refine zx_iconst (v := 1) C dL_law_1154 (by decide) ?_
    refine zx_goto C 1159 dL_law_1155 (by decide) ?_
    exact zx_lv [0, 1, 2, 3, 4] [(0, .ref (b)), (1, .ref (x1)), (2, .ref (x2)), (3, .ref (x3)), (4, .int (x4))] rfl (j_L_law_1159 C htab hin hX hbb hrc23   hm)
set_option maxRecDepth 100000 in
set_option maxHeartbeats 1000000 in
theorem j_L_law_1287 {p : Program} {l : Launch} {e : Env} {s : State} {m : MethodId} {args : Array Value} {below : List Frame} {meth : Method} {c : Code} {D : va_G} {aC : Nat → ClassId} {b0 fu : Nat} {σ0 τ : tM} {v : Int32} {b L : Nat} {xs : Nat → Int32} {rc23 : Nat → Nat → Nat → Int32 → tM → Option ((Int32) × tM)} (C : tCx p l s m args meth c yL_law.cls cL_law 8 (some .boolean) D aC b0 σ0) (htab : True) (hin : True) (hX : va_X b L xs s s.heap) (hbb : b < b0) (hrc23 : ∀ (x1 : Nat) (x2 : Nat) (x3 : Nat) (x4 : Int32) (ρ : tM), rc23 x1 x2 x3 x4 ρ = some (v, τ) → tX p l e s m args below meth c 8 14 271 D aC b0 σ0 (.inl (some (.int v))) τ 23 [(0, .ref (b)), (1, .ref (x1)), (2, .ref (x2)), (3, .ref (x3)), (4, .int (x4))] [] ρ) {x1 : Nat} {x2 : Nat} {x3 : Nat} {x4 : Int32} {σ : tM} (hm : J_L_law_1287 b0 fu L xs rc23 x1 x2 x3 x4 σ = some (v, τ)) : tX p l e s m args below meth c 8 14 271 D aC b0 σ0 (.inl (some (.int v))) τ 1287 [(0, .ref (b)), (1, .ref (x1)), (2, .ref (x2)), (3, .ref (x3)), (4, .int (x4))] [] σ := by
  unfold J_L_law_1287 at hm
  refine zx_goto C 2051 dL_law_1287 (by decide) ?_
  exact zx_lv [0, 1, 2, 3, 4] [(0, .ref (b)), (1, .ref (x1)), (2, .ref (x2)), (3, .ref (x3)), (4, .int (x4))] rfl (j_L_law_2051 C htab hin hX hbb hrc23   hm)
set_option maxRecDepth 100000 in
set_option maxHeartbeats 1000000 in
theorem j_L_law_1222 {p : Program} {l : Launch} {e : Env} {s : State} {m : MethodId} {args : Array Value} {below : List Frame} {meth : Method} {c : Code} {D : va_G} {aC : Nat → ClassId} {b0 fu : Nat} {σ0 τ : tM} {v : Int32} {b L : Nat} {xs : Nat → Int32} {rc23 : Nat → Nat → Nat → Int32 → tM → Option ((Int32) × tM)} (C : tCx p l s m args meth c yL_law.cls cL_law 8 (some .boolean) D aC b0 σ0) (htab : True) (hin : True) (hX : va_X b L xs s s.heap) (hbb : b < b0) (hrc23 : ∀ (x1 : Nat) (x2 : Nat) (x3 : Nat) (x4 : Int32) (ρ : tM), rc23 x1 x2 x3 x4 ρ = some (v, τ) → tX p l e s m args below meth c 8 14 271 D aC b0 σ0 (.inl (some (.int v))) τ 23 [(0, .ref (b)), (1, .ref (x1)), (2, .ref (x2)), (3, .ref (x3)), (4, .int (x4))] [] ρ) {x1 : Nat} {x2 : Nat} {x3 : Nat} {x4 : Int32} {σ : tM} (hm : J_L_law_1222 b0 fu L xs rc23 x1 x2 x3 x4 σ = some (v, τ)) : tX p l e s m args below meth c 8 14 271 D aC b0 σ0 (.inl (some (.int v))) τ 1222 [(0, .ref (b)), (1, .ref (x1)), (2, .ref (x2)), (3, .ref (x3)), (4, .int (x4))] [] σ := by
  unfold J_L_law_1222 at hm
  refine zx_aload_n C dL_law_1222 1 rfl ?_
  refine zx_aload_n C dL_law_1223 0 rfl ?_
  refine zx_iload C dL_law_1224 4 rfl ?_
  refine zx_iconst (v := 1) C dL_law_1226 (by decide) ?_
  refine zx_iadd C dL_law_1227 ?_
  obtain ⟨h407, hm⟩ := ckI_e hm
  refine zx_sld C hX hbb h407 dL_law_1228 ?_
  refine zx_aload_n C dL_law_1229 0 rfl ?_
  refine zx_iload C dL_law_1230 4 rfl ?_
  refine zx_iconst (v := 2) C dL_law_1232 (by decide) ?_
  refine zx_iadd C dL_law_1233 ?_
  obtain ⟨h408, hm⟩ := ckI_e hm
  refine zx_sld C hX hbb h408 dL_law_1234 ?_
  refine zx_aload_n C dL_law_1235 3 rfl ?_
  obtain ⟨v409, ρ410, h411, hm⟩ := cll_e hm
  refine zx_callSH (σ := σ) C [.ref (x1), .int (xs (((x4) + (1)).toNatClampNeg)), .int (xs (((x4) + (2)).toNatClampNeg)), .ref (x3)] Y_L_infoOf W_5_230 W_5_231 (c_L_infoOf h411) (by decide) (by decide) rfl (Nat.le_of_ble_eq_true rfl) dL_law_1236 rfl ?_
  refine zx_istore C [(5, .int (v409)), (0, .ref (b)), (1, .ref (x1)), (2, .ref (x2)), (3, .ref (x3)), (4, .int (x4))] dL_law_1239 (by decide) rfl ?_
  refine zx_aload_n C dL_law_1241 3 rfl ?_
  refine zx_aload_n C dL_law_1242 1 rfl ?_
  refine zx_iload C dL_law_1243 5 rfl ?_
  refine zx_iconst (v := 1) C dL_law_1245 (by decide) ?_
  refine zx_iadd C dL_law_1246 ?_
  obtain ⟨h412, hm⟩ := ckI_e hm
  refine zx_sld C hX hbb h412 dL_law_1247 ?_
  refine zx_aload_n C dL_law_1248 1 rfl ?_
  refine zx_iload C dL_law_1249 5 rfl ?_
  refine zx_iconst (v := 2) C dL_law_1251 (by decide) ?_
  refine zx_iadd C dL_law_1252 ?_
  obtain ⟨h413, hm⟩ := ckI_e hm
  refine zx_sld C hX hbb h413 dL_law_1253 ?_
  obtain ⟨k414, i415, hm⟩ := ckO_e hm
  obtain ⟨v416, ρ417, h418, hm⟩ := cll_e hm
  refine zx_callVH (σ := ρ410) C [.int (xs (((x4) + (1)).toNatClampNeg)), .int (xs (((x4) + (2)).toNatClampNeg))] tC_11 k414 i415 Y_X12_infoOf W_9_24 W_9_25 W_9_26 (c_X12_infoOf h418) (by decide) (by decide) rfl (Nat.le_of_ble_eq_true rfl) dL_law_1254 rfl ?_
  refine zx_istore C [(6, .int (v416)), (5, .int (v409)), (0, .ref (b)), (1, .ref (x1)), (2, .ref (x2)), (3, .ref (x3)), (4, .int (x4))] dL_law_1257 (by decide) rfl ?_
  refine zx_aload_n C dL_law_1259 4 rfl ?_
  obtain ⟨k419, i420, hm⟩ := ckO_e hm
  obtain ⟨v421, ρ422, h423, hm⟩ := cll_e hm
  refine zx_callV (σ := ρ417) C [] tC_11 k419 i420 Y_X12_thrown W_6_190 W_6_191 W_6_192 (c_X12_thrown h423) (by decide) (by decide) rfl (Nat.le_of_ble_eq_true rfl) dL_law_1260 rfl ?_
  refine zx_iload C dL_law_1263 1 rfl ?_
  refine zx_icmp_eq C 1270 dL_law_1265 (by decide) (fun c424 => ?_) (fun c424 => ?_)
  · replace hm := ip_e hm c424
    refine zx_iload C dL_law_1270 1 rfl ?_
    refine zx_if_ne C 1287 dL_law_1272 (by decide) (fun c425 => ?_) (fun c425 => ?_)
    · replace hm := in_e hm c425
      exact zx_lv [2, 3, 4, 5, 6] [(0, .ref (b)), (1, .ref (x1)), (2, .ref (x2)), (3, .ref (x3)), (4, .int (x4))] rfl (j_L_law_1287 C htab hin hX hbb hrc23   hm)
    · replace hm := ip_e hm c425
      refine zx_aload_n C dL_law_1275 5 rfl ?_
      refine zx_iconst (v := 0) C dL_law_1276 (by decide) ?_
      obtain ⟨n428, k426, i427, hm⟩ := ckR_e hm
      obtain ⟨h429, hm⟩ := ckI_e hm
      refine zx_lald C k426 i427 h429 dL_law_1277 ?_
      refine zx_iload C dL_law_1278 0 rfl ?_
      refine zx_i2l C dL_law_1280 ?_
      refine zx_lcmp C dL_law_1281 ?_
      refine zx_if_eq C 1287 dL_law_1282 (by decide) (fun c430 => ?_) (fun c430 => ?_)
      · replace hm := ip_e hm c430
        exact zx_lv [2, 3, 4, 5, 6] [(0, .ref (b)), (1, .ref (x1)), (2, .ref (x2)), (3, .ref (x3)), (4, .int (x4))] rfl (j_L_law_1287 C htab hin hX hbb hrc23   hm)
      · replace hm := in_e hm c430
        refine zx_iconst (v := 0) C dL_law_1285 (by decide) ?_
        obtain ⟨rfl, rfl⟩ := ret_e hm
        exact zx_zret C rfl (by decide) rfl rfl dL_law_1286
  · replace hm := in_e hm c424
    refine zx_iconst (v := 0) C dL_law_1268 (by decide) ?_
    obtain ⟨rfl, rfl⟩ := ret_e hm
    exact zx_zret C rfl (by decide) rfl rfl dL_law_1269
set_option maxRecDepth 100000 in
set_option maxHeartbeats 1000000 in
theorem j_L_law_1355 {p : Program} {l : Launch} {e : Env} {s : State} {m : MethodId} {args : Array Value} {below : List Frame} {meth : Method} {c : Code} {D : va_G} {aC : Nat → ClassId} {b0 fu : Nat} {σ0 τ : tM} {v : Int32} {b L : Nat} {xs : Nat → Int32} {rc23 : Nat → Nat → Nat → Int32 → tM → Option ((Int32) × tM)} (C : tCx p l s m args meth c yL_law.cls cL_law 8 (some .boolean) D aC b0 σ0) (htab : True) (hin : True) (hX : va_X b L xs s s.heap) (hbb : b < b0) (hrc23 : ∀ (x1 : Nat) (x2 : Nat) (x3 : Nat) (x4 : Int32) (ρ : tM), rc23 x1 x2 x3 x4 ρ = some (v, τ) → tX p l e s m args below meth c 8 14 271 D aC b0 σ0 (.inl (some (.int v))) τ 23 [(0, .ref (b)), (1, .ref (x1)), (2, .ref (x2)), (3, .ref (x3)), (4, .int (x4))] [] ρ) {x1 : Nat} {x2 : Nat} {x3 : Nat} {x4 : Int32} {σ : tM} (hm : J_L_law_1355 b0 fu L xs rc23 x1 x2 x3 x4 σ = some (v, τ)) : tX p l e s m args below meth c 8 14 271 D aC b0 σ0 (.inl (some (.int v))) τ 1355 [(0, .ref (b)), (1, .ref (x1)), (2, .ref (x2)), (3, .ref (x3)), (4, .int (x4))] [] σ := by
  unfold J_L_law_1355 at hm
  refine zx_goto C 2051 dL_law_1355 (by decide) ?_
  exact zx_lv [0, 1, 2, 3, 4] [(0, .ref (b)), (1, .ref (x1)), (2, .ref (x2)), (3, .ref (x3)), (4, .int (x4))] rfl (j_L_law_2051 C htab hin hX hbb hrc23   hm)
