/-! ===== PURE: the reference's cells are made (written by wip/gen/gen_al.py) ===== -/
theorem ckI_02 {β : Type} {X : Option β} : ckI 0 2 X = X := by
  unfold ckI
  exact if_pos (by decide)
theorem ckI_12 {β : Type} {X : Option β} : ckI 1 2 X = X := by
  unfold ckI
  exact if_pos (by decide)
def Kr : Nat → Nat ⊕ (Nat × Nat) := (uK (uK (uK (uK (uK (uK (uK (uK (uK (uK (uK (uK (uK (uK (uK (uK (uK (uK (uK (uK (uK (uK (uK (uK (uK (uK (uK (uK (uK (uK (uK (uK (uK (uK (uK (uK (uK (uK (fun _ => .inl 0) 35 (.inl 11)) 36 (.inr (0, 554080))) 37 (.inr (0, 4096))) 38 (.inr (0, 4096))) 39 (.inr (0, 6200))) 40 (.inr (0, 6200))) 41 (.inr (1, 512000))) 42 (.inr (0, 256))) 43 (.inr (0, 256))) 44 (.inr (0, 256))) 45 (.inr (1, 65536))) 46 (.inr (0, 6200))) 47 (.inr (1, 512000))) 48 (.inr (2, 2000))) 49 (.inr (0, 2000))) 50 (.inr (2, 64))) 51 (.inr (2, 6200))) 52 (.inr (2, 6200))) 53 (.inr (0, 64))) 54 (.inr (0, 64))) 55 (.inr (0, 64))) 56 (.inr (0, 64))) 57 (.inr (0, 64))) 58 (.inr (0, 64))) 59 (.inr (0, 64))) 60 (.inr (0, 1024))) 61 (.inr (5, 2))) 62 (.inr (1, 120))) 63 (.inr (1, 120))) 64 (.inr (0, 2))) 65 (.inr (1, 2048))) 66 (.inr (1, 2048))) 67 (.inr (1, 120))) 68 (.inr (0, 6200))) 69 (.inr (0, 6200))) 70 (.inr (1, 4000))) 71 (.inr (0, 16))) 72 (.inr (2, 2000)))
def Rr (b0 : Nat) : Nat → Nat → Option Nat := (uR (nR (uR (nR (uR (nR (uR (nR (uR (nR (uR (nR (uR (nR (uR (nR (uR (nR (uR (uR (nR (uR (nR (nR (uR (nR (uR (nR (uR (nR (uR (nR (uR (nR (uR (nR (uR (nR (uR (nR (uR (nR (uR (nR (uR (nR (uR (nR (uR (nR (uR (nR (uR (nR (uR (nR (uR (nR (uR (nR (uR (nR (uR (nR (uR (nR (uR (nR (uR (nR (uR (nR (uR (nR (nR (fun _ _ => none) 35) 36) 35 1 (some (b0 + 36))) 37) 35 2 (some (b0 + 37))) 38) 35 3 (some (b0 + 38))) 39) 35 8 (some (b0 + 39))) 40) 35 9 (some (b0 + 40))) 41) 35 10 (some (b0 + 41))) 42) 35 11 (some (b0 + 42))) 43) 35 12 (some (b0 + 43))) 44) 35 13 (some (b0 + 44))) 45) 35 14 (some (b0 + 45))) 46) 35 17 (some (b0 + 46))) 47) 35 22 (some (b0 + 47))) 48) 35 23 (some (b0 + 48))) 49) 35 24 (some (b0 + 49))) 50) 35 25 (some (b0 + 50))) 51) 35 26 (some (b0 + 51))) 52) 35 27 (some (b0 + 52))) 53) 35 37 (some (b0 + 53))) 54) 35 38 (some (b0 + 54))) 55) 35 39 (some (b0 + 55))) 56) 35 40 (some (b0 + 56))) 57) 35 41 (some (b0 + 57))) 58) 35 42 (some (b0 + 58))) 59) 35 43 (some (b0 + 59))) 60) 35 44 (some (b0 + 60))) 61) 62) 61 0 (some (b0 + 62))) 63) 61 1 (some (b0 + 63))) 35 47 (some (b0 + 61))) 64) 35 48 (some (b0 + 64))) 65) 35 49 (some (b0 + 65))) 66) 35 50 (some (b0 + 66))) 67) 35 52 (some (b0 + 67))) 68) 35 54 (some (b0 + 68))) 69) 35 55 (some (b0 + 69))) 70) 35 56 (some (b0 + 70))) 71) 35 58 (some (b0 + 71))) 72) 35 59 (some (b0 + 72)))
theorem X12_b {b0 fu u : Nat} {τ0 σ : tM} {Q : Option (Unit × tM) → Prop} (h : MB b0 35 τ0 σ 36 u (uK (fun _ => .inl 0) 35 (.inl 11)) (nR (fun _ _ => none) 35)) (kk : ∀ π, MB b0 35 τ0 π 73 (u + 1711988) Kr (Rr b0) → Q (grw σ (cll (m_X12_format b0 fu (b0 + 35) 40 16 π) (fun _ ρ => some ((), ρ))))) : Q (m_X12_init b0 fu (b0 + 35) σ) := by
  unfold m_X12_init
  simp only [show ((256 : Int32)).toNatClampNeg = 256 from rfl, show ((4096 : Int32)).toNatClampNeg = 4096 from rfl, show ((6200 : Int32)).toNatClampNeg = 6200 from rfl, show ((512000 : Int32)).toNatClampNeg = 512000 from rfl, show ((554080 : Int32)).toNatClampNeg = 554080 from rfl]
  rw [ltb_def, h.1]
  have hr1 := MB_N (k' := 37) (kd := .inr (0, 554080)) (n := 554080) h rfl
  generalize sN σ (b0 + 36) (.inr (0, 554080)) 554080 = ρr2 at hr1 ⊢
  rw [MB_ck hr1 (i := 35) (c := 11) (by omega) (by omega) rfl]
  have gr3 := MB_A (i := 35) (j := 1) (v := some (b0 + 36)) hr1 (by omega) (by omega)
  generalize sA ρr2 (b0 + 35) 1 (some (b0 + 36)) = πr4 at gr3 ⊢
  rw [ltb_def, hr1.1]
  have hr5 := MB_N (k' := 38) (kd := .inr (0, 4096)) (n := 4096) gr3 rfl
  generalize sN πr4 (b0 + 37) (.inr (0, 4096)) 4096 = ρr6 at hr5 ⊢
  rw [MB_ck hr5 (i := 35) (c := 11) (by omega) (by omega) rfl]
  have gr7 := MB_A (i := 35) (j := 2) (v := some (b0 + 37)) hr5 (by omega) (by omega)
  generalize sA ρr6 (b0 + 35) 2 (some (b0 + 37)) = πr8 at gr7 ⊢
  rw [ltb_def, hr5.1]
  have hr9 := MB_N (k' := 39) (kd := .inr (0, 4096)) (n := 4096) gr7 rfl
  generalize sN πr8 (b0 + 38) (.inr (0, 4096)) 4096 = ρr10 at hr9 ⊢
  rw [MB_ck hr9 (i := 35) (c := 11) (by omega) (by omega) rfl]
  have gr11 := MB_A (i := 35) (j := 3) (v := some (b0 + 38)) hr9 (by omega) (by omega)
  generalize sA ρr10 (b0 + 35) 3 (some (b0 + 38)) = πr12 at gr11 ⊢
  rw [ltb_def, hr9.1]
  have hr13 := MB_N (k' := 40) (kd := .inr (0, 6200)) (n := 6200) gr11 rfl
  generalize sN πr12 (b0 + 39) (.inr (0, 6200)) 6200 = ρr14 at hr13 ⊢
  rw [MB_ck hr13 (i := 35) (c := 11) (by omega) (by omega) rfl]
  have gr15 := MB_A (i := 35) (j := 8) (v := some (b0 + 39)) hr13 (by omega) (by omega)
  generalize sA ρr14 (b0 + 35) 8 (some (b0 + 39)) = πr16 at gr15 ⊢
  rw [ltb_def, hr13.1]
  have hr17 := MB_N (k' := 41) (kd := .inr (0, 6200)) (n := 6200) gr15 rfl
  generalize sN πr16 (b0 + 40) (.inr (0, 6200)) 6200 = ρr18 at hr17 ⊢
  rw [MB_ck hr17 (i := 35) (c := 11) (by omega) (by omega) rfl]
  have gr19 := MB_A (i := 35) (j := 9) (v := some (b0 + 40)) hr17 (by omega) (by omega)
  generalize sA ρr18 (b0 + 35) 9 (some (b0 + 40)) = πr20 at gr19 ⊢
  rw [ltb_def, hr17.1]
  have hr21 := MB_N (k' := 42) (kd := .inr (1, 512000)) (n := 512000) gr19 rfl
  generalize sN πr20 (b0 + 41) (.inr (1, 512000)) 512000 = ρr22 at hr21 ⊢
  rw [MB_ck hr21 (i := 35) (c := 11) (by omega) (by omega) rfl]
  have gr23 := MB_A (i := 35) (j := 10) (v := some (b0 + 41)) hr21 (by omega) (by omega)
  generalize sA ρr22 (b0 + 35) 10 (some (b0 + 41)) = πr24 at gr23 ⊢
  rw [ltb_def, hr21.1]
  have hr25 := MB_N (k' := 43) (kd := .inr (0, 256)) (n := 256) gr23 rfl
  generalize sN πr24 (b0 + 42) (.inr (0, 256)) 256 = ρr26 at hr25 ⊢
  rw [MB_ck hr25 (i := 35) (c := 11) (by omega) (by omega) rfl]
  have gr27 := MB_A (i := 35) (j := 11) (v := some (b0 + 42)) hr25 (by omega) (by omega)
  generalize sA ρr26 (b0 + 35) 11 (some (b0 + 42)) = πr28 at gr27 ⊢
  unfold J_X12_init_67
  simp only [show ((256 : Int32)).toNatClampNeg = 256 from rfl, show ((2000 : Int32)).toNatClampNeg = 2000 from rfl, show ((6200 : Int32)).toNatClampNeg = 6200 from rfl, show ((65536 : Int32)).toNatClampNeg = 65536 from rfl, show ((512000 : Int32)).toNatClampNeg = 512000 from rfl]
  rw [ltb_def, gr27.1]
  have hr29 := MB_N (k' := 44) (kd := .inr (0, 256)) (n := 256) gr27 rfl
  generalize sN πr28 (b0 + 43) (.inr (0, 256)) 256 = ρr30 at hr29 ⊢
  rw [MB_ck hr29 (i := 35) (c := 11) (by omega) (by omega) rfl]
  have gr31 := MB_A (i := 35) (j := 12) (v := some (b0 + 43)) hr29 (by omega) (by omega)
  generalize sA ρr30 (b0 + 35) 12 (some (b0 + 43)) = πr32 at gr31 ⊢
  rw [ltb_def, hr29.1]
  have hr33 := MB_N (k' := 45) (kd := .inr (0, 256)) (n := 256) gr31 rfl
  generalize sN πr32 (b0 + 44) (.inr (0, 256)) 256 = ρr34 at hr33 ⊢
  rw [MB_ck hr33 (i := 35) (c := 11) (by omega) (by omega) rfl]
  have gr35 := MB_A (i := 35) (j := 13) (v := some (b0 + 44)) hr33 (by omega) (by omega)
  generalize sA ρr34 (b0 + 35) 13 (some (b0 + 44)) = πr36 at gr35 ⊢
  rw [ltb_def, hr33.1]
  have hr37 := MB_N (k' := 46) (kd := .inr (1, 65536)) (n := 65536) gr35 rfl
  generalize sN πr36 (b0 + 45) (.inr (1, 65536)) 65536 = ρr38 at hr37 ⊢
  rw [MB_ck hr37 (i := 35) (c := 11) (by omega) (by omega) rfl]
  have gr39 := MB_A (i := 35) (j := 14) (v := some (b0 + 45)) hr37 (by omega) (by omega)
  generalize sA ρr38 (b0 + 35) 14 (some (b0 + 45)) = πr40 at gr39 ⊢
  rw [ltb_def, hr37.1]
  have hr41 := MB_N (k' := 47) (kd := .inr (0, 6200)) (n := 6200) gr39 rfl
  generalize sN πr40 (b0 + 46) (.inr (0, 6200)) 6200 = ρr42 at hr41 ⊢
  rw [MB_ck hr41 (i := 35) (c := 11) (by omega) (by omega) rfl]
  have gr43 := MB_A (i := 35) (j := 17) (v := some (b0 + 46)) hr41 (by omega) (by omega)
  generalize sA ρr42 (b0 + 35) 17 (some (b0 + 46)) = πr44 at gr43 ⊢
  rw [ltb_def, hr41.1]
  have hr45 := MB_N (k' := 48) (kd := .inr (1, 512000)) (n := 512000) gr43 rfl
  generalize sN πr44 (b0 + 47) (.inr (1, 512000)) 512000 = ρr46 at hr45 ⊢
  rw [MB_ck hr45 (i := 35) (c := 11) (by omega) (by omega) rfl]
  have gr47 := MB_A (i := 35) (j := 22) (v := some (b0 + 47)) hr45 (by omega) (by omega)
  generalize sA ρr46 (b0 + 35) 22 (some (b0 + 47)) = πr48 at gr47 ⊢
  rw [ltb_def, hr45.1]
  have hr49 := MB_N (k' := 49) (kd := .inr (2, 2000)) (n := 2000) gr47 rfl
  generalize sN πr48 (b0 + 48) (.inr (2, 2000)) 2000 = ρr50 at hr49 ⊢
  rw [MB_ck hr49 (i := 35) (c := 11) (by omega) (by omega) rfl]
  have gr51 := MB_A (i := 35) (j := 23) (v := some (b0 + 48)) hr49 (by omega) (by omega)
  generalize sA ρr50 (b0 + 35) 23 (some (b0 + 48)) = πr52 at gr51 ⊢
  rw [ltb_def, hr49.1]
  have hr53 := MB_N (k' := 50) (kd := .inr (0, 2000)) (n := 2000) gr51 rfl
  generalize sN πr52 (b0 + 49) (.inr (0, 2000)) 2000 = ρr54 at hr53 ⊢
  rw [MB_ck hr53 (i := 35) (c := 11) (by omega) (by omega) rfl]
  have gr55 := MB_A (i := 35) (j := 24) (v := some (b0 + 49)) hr53 (by omega) (by omega)
  generalize sA ρr54 (b0 + 35) 24 (some (b0 + 49)) = πr56 at gr55 ⊢
  unfold J_X12_init_130
  simp only [show ((64 : Int32)).toNatClampNeg = 64 from rfl, show ((6200 : Int32)).toNatClampNeg = 6200 from rfl]
  rw [ltb_def, gr55.1]
  have hr57 := MB_N (k' := 51) (kd := .inr (2, 64)) (n := 64) gr55 rfl
  generalize sN πr56 (b0 + 50) (.inr (2, 64)) 64 = ρr58 at hr57 ⊢
  rw [MB_ck hr57 (i := 35) (c := 11) (by omega) (by omega) rfl]
  have gr59 := MB_A (i := 35) (j := 25) (v := some (b0 + 50)) hr57 (by omega) (by omega)
  generalize sA ρr58 (b0 + 35) 25 (some (b0 + 50)) = πr60 at gr59 ⊢
  rw [ltb_def, hr57.1]
  have hr61 := MB_N (k' := 52) (kd := .inr (2, 6200)) (n := 6200) gr59 rfl
  generalize sN πr60 (b0 + 51) (.inr (2, 6200)) 6200 = ρr62 at hr61 ⊢
  rw [MB_ck hr61 (i := 35) (c := 11) (by omega) (by omega) rfl]
  have gr63 := MB_A (i := 35) (j := 26) (v := some (b0 + 51)) hr61 (by omega) (by omega)
  generalize sA ρr62 (b0 + 35) 26 (some (b0 + 51)) = πr64 at gr63 ⊢
  rw [ltb_def, hr61.1]
  have hr65 := MB_N (k' := 53) (kd := .inr (2, 6200)) (n := 6200) gr63 rfl
  generalize sN πr64 (b0 + 52) (.inr (2, 6200)) 6200 = ρr66 at hr65 ⊢
  rw [MB_ck hr65 (i := 35) (c := 11) (by omega) (by omega) rfl]
  have gr67 := MB_A (i := 35) (j := 27) (v := some (b0 + 52)) hr65 (by omega) (by omega)
  generalize sA ρr66 (b0 + 35) 27 (some (b0 + 52)) = πr68 at gr67 ⊢
  rw [ltb_def, hr65.1]
  have hr69 := MB_N (k' := 54) (kd := .inr (0, 64)) (n := 64) gr67 rfl
  generalize sN πr68 (b0 + 53) (.inr (0, 64)) 64 = ρr70 at hr69 ⊢
  rw [MB_ck hr69 (i := 35) (c := 11) (by omega) (by omega) rfl]
  have gr71 := MB_A (i := 35) (j := 37) (v := some (b0 + 53)) hr69 (by omega) (by omega)
  generalize sA ρr70 (b0 + 35) 37 (some (b0 + 53)) = πr72 at gr71 ⊢
  rw [ltb_def, hr69.1]
  have hr73 := MB_N (k' := 55) (kd := .inr (0, 64)) (n := 64) gr71 rfl
  generalize sN πr72 (b0 + 54) (.inr (0, 64)) 64 = ρr74 at hr73 ⊢
  rw [MB_ck hr73 (i := 35) (c := 11) (by omega) (by omega) rfl]
  have gr75 := MB_A (i := 35) (j := 38) (v := some (b0 + 54)) hr73 (by omega) (by omega)
  generalize sA ρr74 (b0 + 35) 38 (some (b0 + 54)) = πr76 at gr75 ⊢
  rw [ltb_def, hr73.1]
  have hr77 := MB_N (k' := 56) (kd := .inr (0, 64)) (n := 64) gr75 rfl
  generalize sN πr76 (b0 + 55) (.inr (0, 64)) 64 = ρr78 at hr77 ⊢
  rw [MB_ck hr77 (i := 35) (c := 11) (by omega) (by omega) rfl]
  have gr79 := MB_A (i := 35) (j := 39) (v := some (b0 + 55)) hr77 (by omega) (by omega)
  generalize sA ρr78 (b0 + 35) 39 (some (b0 + 55)) = πr80 at gr79 ⊢
  rw [ltb_def, hr77.1]
  have hr81 := MB_N (k' := 57) (kd := .inr (0, 64)) (n := 64) gr79 rfl
  generalize sN πr80 (b0 + 56) (.inr (0, 64)) 64 = ρr82 at hr81 ⊢
  rw [MB_ck hr81 (i := 35) (c := 11) (by omega) (by omega) rfl]
  have gr83 := MB_A (i := 35) (j := 40) (v := some (b0 + 56)) hr81 (by omega) (by omega)
  generalize sA ρr82 (b0 + 35) 40 (some (b0 + 56)) = πr84 at gr83 ⊢
  unfold J_X12_init_188
  simp only [show ((2 : Int32)).toNatClampNeg = 2 from rfl, show ((64 : Int32)).toNatClampNeg = 64 from rfl, show ((120 : Int32)).toNatClampNeg = 120 from rfl, show ((1024 : Int32)).toNatClampNeg = 1024 from rfl, show ((0 : Int32)).toNatClampNeg = 0 from rfl, show ((1 : Int32)).toNatClampNeg = 1 from rfl]
  rw [ltb_def, gr83.1]
  have hr85 := MB_N (k' := 58) (kd := .inr (0, 64)) (n := 64) gr83 rfl
  generalize sN πr84 (b0 + 57) (.inr (0, 64)) 64 = ρr86 at hr85 ⊢
  rw [MB_ck hr85 (i := 35) (c := 11) (by omega) (by omega) rfl]
  have gr87 := MB_A (i := 35) (j := 41) (v := some (b0 + 57)) hr85 (by omega) (by omega)
  generalize sA ρr86 (b0 + 35) 41 (some (b0 + 57)) = πr88 at gr87 ⊢
  rw [ltb_def, hr85.1]
  have hr89 := MB_N (k' := 59) (kd := .inr (0, 64)) (n := 64) gr87 rfl
  generalize sN πr88 (b0 + 58) (.inr (0, 64)) 64 = ρr90 at hr89 ⊢
  rw [MB_ck hr89 (i := 35) (c := 11) (by omega) (by omega) rfl]
  have gr91 := MB_A (i := 35) (j := 42) (v := some (b0 + 58)) hr89 (by omega) (by omega)
  generalize sA ρr90 (b0 + 35) 42 (some (b0 + 58)) = πr92 at gr91 ⊢
  rw [ltb_def, hr89.1]
  have hr93 := MB_N (k' := 60) (kd := .inr (0, 64)) (n := 64) gr91 rfl
  generalize sN πr92 (b0 + 59) (.inr (0, 64)) 64 = ρr94 at hr93 ⊢
  rw [MB_ck hr93 (i := 35) (c := 11) (by omega) (by omega) rfl]
  have gr95 := MB_A (i := 35) (j := 43) (v := some (b0 + 59)) hr93 (by omega) (by omega)
  generalize sA ρr94 (b0 + 35) 43 (some (b0 + 59)) = πr96 at gr95 ⊢
  rw [ltb_def, hr93.1]
  have hr97 := MB_N (k' := 61) (kd := .inr (0, 1024)) (n := 1024) gr95 rfl
  generalize sN πr96 (b0 + 60) (.inr (0, 1024)) 1024 = ρr98 at hr97 ⊢
  rw [MB_ck hr97 (i := 35) (c := 11) (by omega) (by omega) rfl]
  have gr99 := MB_A (i := 35) (j := 44) (v := some (b0 + 60)) hr97 (by omega) (by omega)
  generalize sA ρr98 (b0 + 35) 44 (some (b0 + 60)) = πr100 at gr99 ⊢
  rw [ltb_def, hr97.1]
  have hr101 := MB_N (k' := 62) (kd := .inr (5, 2)) (n := 2) gr99 rfl
  generalize sN πr100 (b0 + 61) (.inr (5, 2)) 2 = ρr102 at hr101 ⊢
  rw [ltb_def, hr101.1]
  have hr103 := MB_N (k' := 63) (kd := .inr (1, 120)) (n := 120) hr101 rfl
  generalize sN ρr102 (b0 + 62) (.inr (1, 120)) 120 = ρr104 at hr103 ⊢
  rw [MB_ckR hr103 (i := 61) (t := 5) (n := 2) (by omega) (by omega) rfl, ckI_02]
  have gr105 := MB_A (i := 61) (j := 0) (v := some (b0 + 62)) hr103 (by omega) (by omega)
  generalize sA ρr104 (b0 + 61) 0 (some (b0 + 62)) = πr106 at gr105 ⊢
  rw [ltb_def, hr103.1]
  have hr107 := MB_N (k' := 64) (kd := .inr (1, 120)) (n := 120) gr105 rfl
  generalize sN πr106 (b0 + 63) (.inr (1, 120)) 120 = ρr108 at hr107 ⊢
  rw [MB_ckR hr107 (i := 61) (t := 5) (n := 2) (by omega) (by omega) rfl, ckI_12]
  have gr109 := MB_A (i := 61) (j := 1) (v := some (b0 + 63)) hr107 (by omega) (by omega)
  generalize sA ρr108 (b0 + 61) 1 (some (b0 + 63)) = πr110 at gr109 ⊢
  rw [MB_ck gr109 (i := 35) (c := 11) (by omega) (by omega) rfl]
  have gr111 := MB_A (i := 35) (j := 47) (v := some (b0 + 61)) gr109 (by omega) (by omega)
  generalize sA πr110 (b0 + 35) 47 (some (b0 + 61)) = πr112 at gr111 ⊢
  unfold J_X12_init_243
  simp only [show ((2 : Int32)).toNatClampNeg = 2 from rfl, show ((120 : Int32)).toNatClampNeg = 120 from rfl, show ((2048 : Int32)).toNatClampNeg = 2048 from rfl, show ((4000 : Int32)).toNatClampNeg = 4000 from rfl, show ((6200 : Int32)).toNatClampNeg = 6200 from rfl]
  rw [ltb_def, gr111.1]
  have hr113 := MB_N (k' := 65) (kd := .inr (0, 2)) (n := 2) gr111 rfl
  generalize sN πr112 (b0 + 64) (.inr (0, 2)) 2 = ρr114 at hr113 ⊢
  rw [MB_ck hr113 (i := 35) (c := 11) (by omega) (by omega) rfl]
  have gr115 := MB_A (i := 35) (j := 48) (v := some (b0 + 64)) hr113 (by omega) (by omega)
  generalize sA ρr114 (b0 + 35) 48 (some (b0 + 64)) = πr116 at gr115 ⊢
  rw [ltb_def, hr113.1]
  have hr117 := MB_N (k' := 66) (kd := .inr (1, 2048)) (n := 2048) gr115 rfl
  generalize sN πr116 (b0 + 65) (.inr (1, 2048)) 2048 = ρr118 at hr117 ⊢
  rw [MB_ck hr117 (i := 35) (c := 11) (by omega) (by omega) rfl]
  have gr119 := MB_A (i := 35) (j := 49) (v := some (b0 + 65)) hr117 (by omega) (by omega)
  generalize sA ρr118 (b0 + 35) 49 (some (b0 + 65)) = πr120 at gr119 ⊢
  rw [ltb_def, hr117.1]
  have hr121 := MB_N (k' := 67) (kd := .inr (1, 2048)) (n := 2048) gr119 rfl
  generalize sN πr120 (b0 + 66) (.inr (1, 2048)) 2048 = ρr122 at hr121 ⊢
  rw [MB_ck hr121 (i := 35) (c := 11) (by omega) (by omega) rfl]
  have gr123 := MB_A (i := 35) (j := 50) (v := some (b0 + 66)) hr121 (by omega) (by omega)
  generalize sA ρr122 (b0 + 35) 50 (some (b0 + 66)) = πr124 at gr123 ⊢
  rw [ltb_def, hr121.1]
  have hr125 := MB_N (k' := 68) (kd := .inr (1, 120)) (n := 120) gr123 rfl
  generalize sN πr124 (b0 + 67) (.inr (1, 120)) 120 = ρr126 at hr125 ⊢
  rw [MB_ck hr125 (i := 35) (c := 11) (by omega) (by omega) rfl]
  have gr127 := MB_A (i := 35) (j := 52) (v := some (b0 + 67)) hr125 (by omega) (by omega)
  generalize sA ρr126 (b0 + 35) 52 (some (b0 + 67)) = πr128 at gr127 ⊢
  rw [ltb_def, hr125.1]
  have hr129 := MB_N (k' := 69) (kd := .inr (0, 6200)) (n := 6200) gr127 rfl
  generalize sN πr128 (b0 + 68) (.inr (0, 6200)) 6200 = ρr130 at hr129 ⊢
  rw [MB_ck hr129 (i := 35) (c := 11) (by omega) (by omega) rfl]
  have gr131 := MB_A (i := 35) (j := 54) (v := some (b0 + 68)) hr129 (by omega) (by omega)
  generalize sA ρr130 (b0 + 35) 54 (some (b0 + 68)) = πr132 at gr131 ⊢
  rw [ltb_def, hr129.1]
  have hr133 := MB_N (k' := 70) (kd := .inr (0, 6200)) (n := 6200) gr131 rfl
  generalize sN πr132 (b0 + 69) (.inr (0, 6200)) 6200 = ρr134 at hr133 ⊢
  rw [MB_ck hr133 (i := 35) (c := 11) (by omega) (by omega) rfl]
  have gr135 := MB_A (i := 35) (j := 55) (v := some (b0 + 69)) hr133 (by omega) (by omega)
  generalize sA ρr134 (b0 + 35) 55 (some (b0 + 69)) = πr136 at gr135 ⊢
  rw [ltb_def, hr133.1]
  have hr137 := MB_N (k' := 71) (kd := .inr (1, 4000)) (n := 4000) gr135 rfl
  generalize sN πr136 (b0 + 70) (.inr (1, 4000)) 4000 = ρr138 at hr137 ⊢
  rw [MB_ck hr137 (i := 35) (c := 11) (by omega) (by omega) rfl]
  have gr139 := MB_A (i := 35) (j := 56) (v := some (b0 + 70)) hr137 (by omega) (by omega)
  generalize sA ρr138 (b0 + 35) 56 (some (b0 + 70)) = πr140 at gr139 ⊢
  unfold J_X12_init_303
  simp only [show ((16 : Int32)).toNatClampNeg = 16 from rfl, show ((2000 : Int32)).toNatClampNeg = 2000 from rfl]
  rw [ltb_def, gr139.1]
  have hr141 := MB_N (k' := 72) (kd := .inr (0, 16)) (n := 16) gr139 rfl
  generalize sN πr140 (b0 + 71) (.inr (0, 16)) 16 = ρr142 at hr141 ⊢
  rw [MB_ck hr141 (i := 35) (c := 11) (by omega) (by omega) rfl]
  have gr143 := MB_A (i := 35) (j := 58) (v := some (b0 + 71)) hr141 (by omega) (by omega)
  generalize sA ρr142 (b0 + 35) 58 (some (b0 + 71)) = πr144 at gr143 ⊢
  rw [ltb_def, hr141.1]
  have hr145 := MB_N (k' := 73) (kd := .inr (2, 2000)) (n := 2000) gr143 rfl
  generalize sN πr144 (b0 + 72) (.inr (2, 2000)) 2000 = ρr146 at hr145 ⊢
  rw [MB_ck hr145 (i := 35) (c := 11) (by omega) (by omega) rfl]
  have gr147 := MB_A (i := 35) (j := 59) (v := some (b0 + 72)) hr145 (by omega) (by omega)
  generalize sA ρr146 (b0 + 35) 59 (some (b0 + 72)) = πr148 at gr147 ⊢
  refine kk _ ?_
  have e : u + 1711988 = (((((((((((((((((((((((((((((((((((((u + 554080) + 4096) + 4096) + 6200) + 6200) + 512000) + 256) + 256) + 256) + 65536) + 6200) + 512000) + 2000) + 2000) + 64) + 6200) + 6200) + 64) + 64) + 64) + 64) + 64) + 64) + 64) + 1024) + 2) + 120) + 120) + 2) + 2048) + 2048) + 120) + 6200) + 6200) + 4000) + 16) + 2000) := by omega
  rw [e]
  exact gr147
