theorem tb_1 {w : Cond} (i : Nat) (h : tables_1_1[i]? = some w) (hg : goodW w = true) : w ∈ lwg := List.mem_filter.mpr ⟨List.mem_append_right _ (List.mem_append_left _ (List.mem_of_getElem? h)), hg⟩
theorem tb_2 {w : Cond} (i : Nat) (h : tables_1_2[i]? = some w) (hg : goodW w = true) : w ∈ lwg := List.mem_filter.mpr ⟨List.mem_append_right _ (List.mem_append_right _ (List.mem_append_left _ (List.mem_of_getElem? h))), hg⟩
theorem tb_3 {w : Cond} (i : Nat) (h : tables_1_3[i]? = some w) (hg : goodW w = true) : w ∈ lwg := List.mem_filter.mpr ⟨List.mem_append_right _ (List.mem_append_right _ (List.mem_append_right _ (List.mem_append_left _ (List.mem_of_getElem? h)))), hg⟩
theorem tb_4 {w : Cond} (i : Nat) (h : tables_1_4[i]? = some w) (hg : goodW w = true) : w ∈ lwg := List.mem_filter.mpr ⟨List.mem_append_right _ (List.mem_append_right _ (List.mem_append_right _ (List.mem_append_right _ (List.mem_append_left _ (List.mem_of_getElem? h))))), hg⟩
theorem tb_5 {w : Cond} (i : Nat) (h : tables_1_5[i]? = some w) (hg : goodW w = true) : w ∈ lwg := List.mem_filter.mpr ⟨List.mem_append_right _ (List.mem_append_right _ (List.mem_append_right _ (List.mem_append_right _ (List.mem_append_right _ (List.mem_append_left _ (List.mem_of_getElem? h)))))), hg⟩
theorem tb_6 {w : Cond} (i : Nat) (h : tables_1_6[i]? = some w) (hg : goodW w = true) : w ∈ lwg := List.mem_filter.mpr ⟨List.mem_append_right _ (List.mem_append_right _ (List.mem_append_right _ (List.mem_append_right _ (List.mem_append_right _ (List.mem_append_right _ (List.mem_append_left _ (List.mem_of_getElem? h))))))), hg⟩
theorem tb_7 {w : Cond} (i : Nat) (h : tables_1_7[i]? = some w) (hg : goodW w = true) : w ∈ lwg := List.mem_filter.mpr ⟨List.mem_append_right _ (List.mem_append_right _ (List.mem_append_right _ (List.mem_append_right _ (List.mem_append_right _ (List.mem_append_right _ (List.mem_append_right _ (List.mem_append_left _ (List.mem_of_getElem? h)))))))), hg⟩
theorem tb_8 {w : Cond} (i : Nat) (h : tables_1_8[i]? = some w) (hg : goodW w = true) : w ∈ lwg := List.mem_filter.mpr ⟨List.mem_append_right _ (List.mem_append_right _ (List.mem_append_right _ (List.mem_append_right _ (List.mem_append_right _ (List.mem_append_right _ (List.mem_append_right _ (List.mem_append_right _ (List.mem_append_left _ (List.mem_of_getElem? h))))))))), hg⟩
theorem tb_9 {w : Cond} (i : Nat) (h : tables_1_9[i]? = some w) (hg : goodW w = true) : w ∈ lwg := List.mem_filter.mpr ⟨List.mem_append_right _ (List.mem_append_right _ (List.mem_append_right _ (List.mem_append_right _ (List.mem_append_right _ (List.mem_append_right _ (List.mem_append_right _ (List.mem_append_right _ (List.mem_append_right _ (List.mem_of_getElem? h))))))))), hg⟩
theorem tb_p {q : MethodName × Nat} (h : q ∈ lw_privs) (hg : goodW (Cond.selects q.1.cls q.1 q.1) = true) : Cond.selects q.1.cls q.1 q.1 ∈ lwg := List.mem_filter.mpr ⟨List.mem_append_left _ (List.mem_map.mpr ⟨q, h, rfl⟩), hg⟩
theorem W_1_0 : (Jvm.Cond.initialized "SyncTreeLaw") ∈ lwg := tb_1 0 rfl rfl
theorem W_1_1 : (Jvm.Cond.initialized "SyncTree") ∈ lwg := tb_1 1 rfl rfl
theorem W_1_2 : (Jvm.Cond.initialized "SyncTree$Disk") ∈ lwg := tb_1 2 rfl rfl
theorem W_1_3 : (Jvm.Cond.initialized "SyncTree$Space") ∈ lwg := tb_1 3 rfl rfl
theorem W_1_4 : (Jvm.Cond.initialized "SyncTree$Tree") ∈ lwg := tb_1 4 rfl rfl
theorem W_1_5 : (Jvm.Cond.initialized "SyncTree$Journal") ∈ lwg := tb_1 5 rfl rfl
theorem W_1_6 : (Jvm.Cond.initialized "SyncTree$Loader") ∈ lwg := tb_1 6 rfl rfl
theorem W_1_7 : (Jvm.Cond.initialized "SyncTree$Walker") ∈ lwg := tb_1 7 rfl rfl
theorem W_1_8 : (Jvm.Cond.initialized "SyncTree$Tape") ∈ lwg := tb_1 8 rfl rfl
theorem W_1_9 : (Jvm.Cond.initialized "SyncTree$PathText") ∈ lwg := tb_1 9 rfl rfl
theorem W_1_10 : (Jvm.Cond.initialized "java/lang/Math") ∈ lwg := tb_1 10 rfl rfl
theorem W_1_11 : (Jvm.Cond.initialized "java/lang/System") ∈ lwg := tb_1 11 rfl rfl
theorem W_1_12 : (Jvm.Cond.initialized "java/util/Arrays") ∈ lwg := tb_1 12 rfl rfl
theorem W_1_13 : (Jvm.Cond.initialized "SyncTree$Row") ∈ lwg := tb_1 13 rfl rfl
theorem W_1_14 : (Jvm.Cond.initialized "SyncTreeModel") ∈ lwg := tb_1 14 rfl rfl
theorem W_1_15 : (Jvm.Cond.initialized "java/lang/Throwable") ∈ lwg := tb_1 15 rfl rfl
theorem W_1_16 : (Jvm.Cond.initialized "java/lang/Exception") ∈ lwg := tb_1 16 rfl rfl
theorem W_1_17 : (Jvm.Cond.initialized "java/lang/RuntimeException") ∈ lwg := tb_1 17 rfl rfl
theorem W_1_18 : (Jvm.Cond.initialized "java/lang/IllegalStateException") ∈ lwg := tb_1 18 rfl rfl
theorem W_1_19 : (Jvm.Cond.initialized "SyncTree$Transaction") ∈ lwg := tb_1 19 rfl rfl
theorem W_1_20 : (Jvm.Cond.classLink "SyncTreeLaw" (8 : Nat) "SyncTree") ∈ lwg := tb_1 20 rfl rfl
theorem W_1_21 : (Jvm.Cond.instantiable "SyncTree" (10 : Nat)) ∈ lwg := tb_1 21 rfl rfl
theorem W_1_22 : (Jvm.Cond.methodLink "SyncTreeLaw" (99 : Nat) ({ cls := "SyncTree", name := "<init>", desc := "()V" } : Jvm.MethodName)) ∈ lwg := tb_1 22 rfl rfl
theorem W_1_23 : (Jvm.Cond.instanceMethod ({ cls := "SyncTree", name := "<init>", desc := "()V" } : Jvm.MethodName)) ∈ lwg := tb_1 23 rfl rfl
theorem W_1_24 : (Jvm.Cond.code ({ cls := "SyncTree", name := "<init>", desc := "()V" } : Jvm.MethodName) prog_1_method_1_code (1 : Nat) (Option.none : Option Jvm.ClassFile.FieldType)) ∈ lwg := tb_1 24 rfl rfl
theorem W_1_25 : (Jvm.Cond.methodLink "SyncTree" (3 : Nat) ({ cls := "java/lang/Object", name := "<init>", desc := "()V" } : Jvm.MethodName)) ∈ lwg := tb_1 25 rfl rfl
theorem W_1_26 : (Jvm.Cond.instanceMethod ({ cls := "java/lang/Object", name := "<init>", desc := "()V" } : Jvm.MethodName)) ∈ lwg := tb_1 26 rfl rfl
theorem W_1_27 : (Jvm.Cond.code ({ cls := "java/lang/Object", name := "<init>", desc := "()V" } : Jvm.MethodName) object_method_1_code (1 : Nat) (Option.none : Option Jvm.ClassFile.FieldType)) ∈ lwg := tb_1 27 rfl rfl
theorem W_1_28 : (Jvm.Cond.classLink "SyncTree" (9 : Nat) "SyncTree$Disk") ∈ lwg := tb_1 28 rfl rfl
theorem W_1_29 : (Jvm.Cond.instantiable "SyncTree$Disk" (15 : Nat)) ∈ lwg := tb_1 29 rfl rfl
theorem W_1_30 : (Jvm.Cond.methodLinkNest "SyncTree" (11 : Nat) ({ cls := "SyncTree$Disk", name := "<init>", desc := "()V" } : Jvm.MethodName) "SyncTree") ∈ lwg := tb_1 30 rfl rfl
theorem W_1_31 : (Jvm.Cond.instanceMethod ({ cls := "SyncTree$Disk", name := "<init>", desc := "()V" } : Jvm.MethodName)) ∈ lwg := tb_1 31 rfl rfl
theorem W_1_32 : (Jvm.Cond.code ({ cls := "SyncTree$Disk", name := "<init>", desc := "()V" } : Jvm.MethodName) prog_2_method_1_code (1 : Nat) (Option.none : Option Jvm.ClassFile.FieldType)) ∈ lwg := tb_1 32 rfl rfl
theorem W_1_33 : (Jvm.Cond.methodLink "SyncTree$Disk" (3 : Nat) ({ cls := "java/lang/Object", name := "<init>", desc := "()V" } : Jvm.MethodName)) ∈ lwg := tb_1 33 rfl rfl
theorem W_1_34 : (Jvm.Cond.classLink "SyncTree$Disk" (15 : Nat) "SyncTree$Row") ∈ lwg := tb_1 34 rfl rfl
theorem W_1_35 : (Jvm.Cond.arrayOver (Jvm.ClassFile.FieldType.object "SyncTree$Row")) ∈ lwg := tb_1 35 rfl rfl
theorem W_1_36 : (Jvm.Cond.fieldLink "SyncTree$Disk" (9 : Nat) "SyncTree$Disk" "keptTag" "[I") ∈ lwg := tb_1 36 rfl rfl
theorem W_1_37 : (Jvm.Cond.fieldLink "SyncTree$Disk" (17 : Nat) "SyncTree$Disk" "keptRow" "[LSyncTree$Row;") ∈ lwg := tb_1 37 rfl rfl
theorem W_1_38 : (Jvm.Cond.fieldLink "SyncTree$Disk" (21 : Nat) "SyncTree$Disk" "count" "[I") ∈ lwg := tb_1 38 rfl rfl
theorem W_1_39 : (Jvm.Cond.fieldLink "SyncTree$Disk" (24 : Nat) "SyncTree$Disk" "choice" "[I") ∈ lwg := tb_1 39 rfl rfl
theorem W_1_40 : (Jvm.Cond.fieldLink "SyncTree$Disk" (27 : Nat) "SyncTree$Disk" "slotBlock" "[I") ∈ lwg := tb_1 40 rfl rfl
theorem W_1_41 : (Jvm.Cond.fieldLink "SyncTree$Disk" (30 : Nat) "SyncTree$Disk" "slotTag" "[I") ∈ lwg := tb_1 41 rfl rfl
theorem W_1_42 : (Jvm.Cond.fieldLink "SyncTree$Disk" (33 : Nat) "SyncTree$Disk" "slotRow" "[LSyncTree$Row;") ∈ lwg := tb_1 42 rfl rfl
theorem W_1_43 : (Jvm.Cond.fieldLink "SyncTree$Disk" (36 : Nat) "SyncTree$Disk" "slotHasBytes" "[Z") ∈ lwg := tb_1 43 rfl rfl
theorem W_1_44 : (Jvm.Cond.fieldLink "SyncTree$Disk" (40 : Nat) "SyncTree$Disk" "blocks" "I") ∈ lwg := tb_1 44 rfl rfl
theorem W_1_45 : (Jvm.Cond.fieldLink "SyncTree$Disk" (53 : Nat) "SyncTree$Disk" "oldest" "I") ∈ lwg := tb_1 45 rfl rfl
theorem W_1_46 : (Jvm.Cond.fieldLink "SyncTree$Disk" (56 : Nat) "SyncTree$Disk" "held" "I") ∈ lwg := tb_1 46 rfl rfl
theorem W_1_47 : (Jvm.Cond.fieldLinkNest "SyncTree" (349 : Nat) "SyncTree$Disk" "held" "I" "SyncTree") ∈ lwg := tb_1 47 rfl rfl
theorem W_1_48 : (Jvm.Cond.fieldLink "SyncTree$Disk" (59 : Nat) "SyncTree$Disk" "acts" "I") ∈ lwg := tb_1 48 rfl rfl
theorem W_1_49 : (Jvm.Cond.fieldLink "SyncTree$Disk" (62 : Nat) "SyncTree$Disk" "flushes" "I") ∈ lwg := tb_1 49 rfl rfl
theorem W_1_50 : (Jvm.Cond.fieldLink "SyncTree$Disk" (65 : Nat) "SyncTree$Disk" "actsLeft" "I") ∈ lwg := tb_1 50 rfl rfl
theorem W_1_51 : (Jvm.Cond.fieldLinkNest "SyncTree" (343 : Nat) "SyncTree$Disk" "actsLeft" "I" "SyncTree") ∈ lwg := tb_1 51 rfl rfl
theorem W_1_52 : (Jvm.Cond.fieldLink "SyncTree$Disk" (68 : Nat) "SyncTree$Disk" "on" "Z") ∈ lwg := tb_1 52 rfl rfl
theorem W_1_53 : (Jvm.Cond.fieldLinkNest "SyncTree" (352 : Nat) "SyncTree$Disk" "on" "Z" "SyncTree") ∈ lwg := tb_1 53 rfl rfl
theorem W_1_54 : (Jvm.Cond.laysFinal "SyncTree$Disk" "SyncTree$Disk" "keptTag" "[I") ∈ lwg := tb_1 54 rfl rfl
theorem W_1_56 : (Jvm.Cond.laysFinal "SyncTree$Disk" "SyncTree$Disk" "keptRow" "[LSyncTree$Row;") ∈ lwg := tb_1 56 rfl rfl
theorem W_1_58 : (Jvm.Cond.laysFinal "SyncTree$Disk" "SyncTree$Disk" "count" "[I") ∈ lwg := tb_1 58 rfl rfl
theorem W_1_60 : (Jvm.Cond.laysFinal "SyncTree$Disk" "SyncTree$Disk" "choice" "[I") ∈ lwg := tb_1 60 rfl rfl
theorem W_1_62 : (Jvm.Cond.laysFinal "SyncTree$Disk" "SyncTree$Disk" "slotBlock" "[I") ∈ lwg := tb_1 62 rfl rfl
theorem W_1_64 : (Jvm.Cond.laysFinal "SyncTree$Disk" "SyncTree$Disk" "slotTag" "[I") ∈ lwg := tb_1 64 rfl rfl
theorem W_1_66 : (Jvm.Cond.laysFinal "SyncTree$Disk" "SyncTree$Disk" "slotRow" "[LSyncTree$Row;") ∈ lwg := tb_1 66 rfl rfl
theorem W_1_68 : (Jvm.Cond.laysFinal "SyncTree$Disk" "SyncTree$Disk" "slotHasBytes" "[Z") ∈ lwg := tb_1 68 rfl rfl
theorem W_1_70 : (Jvm.Cond.lays "SyncTree$Disk" "SyncTree$Disk" "blocks" "I") ∈ lwg := tb_1 70 rfl rfl
theorem W_1_72 : (Jvm.Cond.lays "SyncTree$Disk" "SyncTree$Disk" "oldest" "I") ∈ lwg := tb_1 72 rfl rfl
theorem W_1_74 : (Jvm.Cond.lays "SyncTree$Disk" "SyncTree$Disk" "held" "I") ∈ lwg := tb_1 74 rfl rfl
theorem W_1_76 : (Jvm.Cond.lays "SyncTree$Disk" "SyncTree$Disk" "acts" "I") ∈ lwg := tb_1 76 rfl rfl
theorem W_1_78 : (Jvm.Cond.lays "SyncTree$Disk" "SyncTree$Disk" "flushes" "I") ∈ lwg := tb_1 78 rfl rfl
theorem W_1_80 : (Jvm.Cond.lays "SyncTree$Disk" "SyncTree$Disk" "actsLeft" "I") ∈ lwg := tb_1 80 rfl rfl
theorem W_1_82 : (Jvm.Cond.lays "SyncTree$Disk" "SyncTree$Disk" "on" "Z") ∈ lwg := tb_1 82 rfl rfl
theorem W_1_85 : (Jvm.Cond.arrayClass Jvm.ClassFile.FieldType.int) ∈ lwg := tb_1 85 rfl rfl
theorem W_1_86 : (Jvm.Cond.arrayClass Jvm.ClassFile.FieldType.boolean) ∈ lwg := tb_1 86 rfl rfl
theorem W_1_87 : (Jvm.Cond.classLink "SyncTree" (16 : Nat) "SyncTree$Space") ∈ lwg := tb_1 87 rfl rfl
theorem W_1_88 : (Jvm.Cond.instantiable "SyncTree$Space" (17 : Nat)) ∈ lwg := tb_1 88 rfl rfl
theorem W_1_89 : (Jvm.Cond.methodLinkNest "SyncTree" (18 : Nat) ({ cls := "SyncTree$Space", name := "<init>", desc := "()V" } : Jvm.MethodName) "SyncTree") ∈ lwg := tb_1 89 rfl rfl
theorem W_1_90 : (Jvm.Cond.instanceMethod ({ cls := "SyncTree$Space", name := "<init>", desc := "()V" } : Jvm.MethodName)) ∈ lwg := tb_1 90 rfl rfl
theorem W_1_91 : (Jvm.Cond.code ({ cls := "SyncTree$Space", name := "<init>", desc := "()V" } : Jvm.MethodName) prog_7_method_1_code (1 : Nat) (Option.none : Option Jvm.ClassFile.FieldType)) ∈ lwg := tb_1 91 rfl rfl
theorem W_1_92 : (Jvm.Cond.methodLink "SyncTree$Space" (3 : Nat) ({ cls := "java/lang/Object", name := "<init>", desc := "()V" } : Jvm.MethodName)) ∈ lwg := tb_1 92 rfl rfl
theorem W_1_93 : (Jvm.Cond.constant "SyncTree$Space" (9 : Nat) (65536 : Int32)) ∈ lwg := tb_1 93 rfl rfl
theorem W_1_94 : (Jvm.Cond.fieldLink "SyncTree$Space" (10 : Nat) "SyncTree$Space" "words" "[J") ∈ lwg := tb_1 94 rfl rfl
theorem W_1_95 : (Jvm.Cond.fieldLinkNest "SyncTree$Tree" (19 : Nat) "SyncTree$Space" "words" "[J" "SyncTree") ∈ lwg := tb_1 95 rfl rfl
theorem W_1_96 : (Jvm.Cond.fieldLinkNest "SyncTree" (329 : Nat) "SyncTree$Space" "words" "[J" "SyncTree") ∈ lwg := tb_1 96 rfl rfl
theorem W_1_97 : (Jvm.Cond.fieldLink "SyncTree$Space" (16 : Nat) "SyncTree$Space" "state" "[I") ∈ lwg := tb_1 97 rfl rfl
theorem W_1_98 : (Jvm.Cond.fieldLink "SyncTree$Space" (20 : Nat) "SyncTree$Space" "birth" "[I") ∈ lwg := tb_1 98 rfl rfl
theorem W_1_99 : (Jvm.Cond.fieldLink "SyncTree$Space" (23 : Nat) "SyncTree$Space" "owner" "[B") ∈ lwg := tb_1 99 rfl rfl
theorem W_1_100 : (Jvm.Cond.fieldLink "SyncTree$Space" (27 : Nat) "SyncTree$Space" "touched" "[B") ∈ lwg := tb_1 100 rfl rfl
theorem W_1_101 : (Jvm.Cond.fieldLink "SyncTree$Space" (30 : Nat) "SyncTree$Space" "revoked" "[B") ∈ lwg := tb_1 101 rfl rfl
theorem W_1_102 : (Jvm.Cond.fieldLink "SyncTree$Space" (33 : Nat) "SyncTree$Space" "dirty" "[B") ∈ lwg := tb_1 102 rfl rfl
theorem W_1_103 : (Jvm.Cond.fieldLinkNest "SyncTree$Journal" (36 : Nat) "SyncTree$Space" "cells" "I" "SyncTree") ∈ lwg := tb_1 103 rfl rfl
theorem W_1_104 : (Jvm.Cond.fieldLink "SyncTree$Space" (48 : Nat) "SyncTree$Space" "cells" "I") ∈ lwg := tb_1 104 rfl rfl
theorem W_1_105 : (Jvm.Cond.fieldLinkNest "SyncTree" (311 : Nat) "SyncTree$Space" "cells" "I" "SyncTree") ∈ lwg := tb_1 105 rfl rfl
theorem W_1_106 : (Jvm.Cond.fieldLink "SyncTree$Space" (52 : Nat) "SyncTree$Space" "log" "I") ∈ lwg := tb_1 106 rfl rfl
theorem W_1_107 : (Jvm.Cond.fieldLink "SyncTree$Space" (84 : Nat) "SyncTree$Space" "unused" "I") ∈ lwg := tb_1 107 rfl rfl
theorem W_1_108 : (Jvm.Cond.fieldLinkNest "SyncTree" (242 : Nat) "SyncTree$Space" "unused" "I" "SyncTree") ∈ lwg := tb_1 108 rfl rfl
theorem W_1_109 : (Jvm.Cond.fieldLinkNest "SyncTree$Tree" (192 : Nat) "SyncTree$Space" "unused" "I" "SyncTree") ∈ lwg := tb_1 109 rfl rfl
theorem W_1_110 : (Jvm.Cond.fieldLink "SyncTree$Space" (87 : Nat) "SyncTree$Space" "retired" "I") ∈ lwg := tb_1 110 rfl rfl
theorem W_1_111 : (Jvm.Cond.fieldLink "SyncTree$Space" (78 : Nat) "SyncTree$Space" "touchedCount" "I") ∈ lwg := tb_1 111 rfl rfl
theorem W_1_112 : (Jvm.Cond.fieldLinkNest "SyncTree$Journal" (135 : Nat) "SyncTree$Space" "touchedCount" "I" "SyncTree") ∈ lwg := tb_1 112 rfl rfl
theorem W_1_113 : (Jvm.Cond.fieldLink "SyncTree$Space" (81 : Nat) "SyncTree$Space" "revokedCount" "I") ∈ lwg := tb_1 113 rfl rfl
theorem W_1_114 : (Jvm.Cond.fieldLinkNest "SyncTree$Journal" (138 : Nat) "SyncTree$Space" "revokedCount" "I" "SyncTree") ∈ lwg := tb_1 114 rfl rfl
theorem W_1_115 : (Jvm.Cond.fieldLink "SyncTree$Space" (65 : Nat) "SyncTree$Space" "dirtyCount" "I") ∈ lwg := tb_1 115 rfl rfl
theorem W_1_116 : (Jvm.Cond.fieldLinkNest "SyncTree" (314 : Nat) "SyncTree$Space" "dirtyCount" "I" "SyncTree") ∈ lwg := tb_1 116 rfl rfl
theorem W_1_117 : (Jvm.Cond.fieldLink "SyncTree$Space" (90 : Nat) "SyncTree$Space" "lowest" "I") ∈ lwg := tb_1 117 rfl rfl
theorem W_1_118 : (Jvm.Cond.fieldLink "SyncTree$Space" (55 : Nat) "SyncTree$Space" "births" "I") ∈ lwg := tb_1 118 rfl rfl
theorem W_1_119 : (Jvm.Cond.fieldLink "SyncTree$Space" (72 : Nat) "SyncTree$Space" "group" "I") ∈ lwg := tb_1 119 rfl rfl
theorem W_1_120 : (Jvm.Cond.laysFinal "SyncTree$Space" "SyncTree$Space" "words" "[J") ∈ lwg := tb_1 120 rfl rfl
theorem W_1_122 : (Jvm.Cond.laysFinal "SyncTree$Space" "SyncTree$Space" "state" "[I") ∈ lwg := tb_1 122 rfl rfl
theorem W_1_124 : (Jvm.Cond.laysFinal "SyncTree$Space" "SyncTree$Space" "birth" "[I") ∈ lwg := tb_1 124 rfl rfl
theorem W_1_126 : (Jvm.Cond.laysFinal "SyncTree$Space" "SyncTree$Space" "owner" "[B") ∈ lwg := tb_1 126 rfl rfl
theorem W_1_128 : (Jvm.Cond.laysFinal "SyncTree$Space" "SyncTree$Space" "touched" "[B") ∈ lwg := tb_1 128 rfl rfl
theorem W_1_130 : (Jvm.Cond.laysFinal "SyncTree$Space" "SyncTree$Space" "revoked" "[B") ∈ lwg := tb_1 130 rfl rfl
theorem W_1_132 : (Jvm.Cond.laysFinal "SyncTree$Space" "SyncTree$Space" "dirty" "[B") ∈ lwg := tb_1 132 rfl rfl
theorem W_1_134 : (Jvm.Cond.lays "SyncTree$Space" "SyncTree$Space" "cells" "I") ∈ lwg := tb_1 134 rfl rfl
theorem W_1_136 : (Jvm.Cond.lays "SyncTree$Space" "SyncTree$Space" "log" "I") ∈ lwg := tb_1 136 rfl rfl
theorem W_1_138 : (Jvm.Cond.lays "SyncTree$Space" "SyncTree$Space" "unused" "I") ∈ lwg := tb_1 138 rfl rfl
theorem W_1_140 : (Jvm.Cond.lays "SyncTree$Space" "SyncTree$Space" "retired" "I") ∈ lwg := tb_1 140 rfl rfl
theorem W_1_142 : (Jvm.Cond.lays "SyncTree$Space" "SyncTree$Space" "touchedCount" "I") ∈ lwg := tb_1 142 rfl rfl
theorem W_1_144 : (Jvm.Cond.lays "SyncTree$Space" "SyncTree$Space" "revokedCount" "I") ∈ lwg := tb_1 144 rfl rfl
theorem W_1_146 : (Jvm.Cond.lays "SyncTree$Space" "SyncTree$Space" "dirtyCount" "I") ∈ lwg := tb_1 146 rfl rfl
theorem W_1_148 : (Jvm.Cond.lays "SyncTree$Space" "SyncTree$Space" "lowest" "I") ∈ lwg := tb_1 148 rfl rfl
theorem W_1_150 : (Jvm.Cond.lays "SyncTree$Space" "SyncTree$Space" "births" "I") ∈ lwg := tb_1 150 rfl rfl
theorem W_1_152 : (Jvm.Cond.lays "SyncTree$Space" "SyncTree$Space" "group" "I") ∈ lwg := tb_1 152 rfl rfl
theorem W_1_155 : (Jvm.Cond.arrayClass Jvm.ClassFile.FieldType.long) ∈ lwg := tb_1 155 rfl rfl
theorem W_1_156 : (Jvm.Cond.arrayClass Jvm.ClassFile.FieldType.byte) ∈ lwg := tb_1 156 rfl rfl
theorem W_1_157 : (Jvm.Cond.classLink "SyncTree" (23 : Nat) "SyncTree$Tree") ∈ lwg := tb_1 157 rfl rfl
theorem W_1_158 : (Jvm.Cond.instantiable "SyncTree$Tree" (3 : Nat)) ∈ lwg := tb_1 158 rfl rfl
theorem W_1_159 : (Jvm.Cond.methodLink "SyncTree" (25 : Nat) ({ cls := "SyncTree$Tree", name := "<init>", desc := "(LSyncTree$Space;)V" } : Jvm.MethodName)) ∈ lwg := tb_1 159 rfl rfl
theorem W_1_160 : (Jvm.Cond.instanceMethod ({ cls := "SyncTree$Tree", name := "<init>", desc := "(LSyncTree$Space;)V" } : Jvm.MethodName)) ∈ lwg := tb_1 160 rfl rfl
theorem W_1_161 : (Jvm.Cond.code ({ cls := "SyncTree$Tree", name := "<init>", desc := "(LSyncTree$Space;)V" } : Jvm.MethodName) prog_10_method_1_code (2 : Nat) (Option.none : Option Jvm.ClassFile.FieldType)) ∈ lwg := tb_1 161 rfl rfl
theorem W_1_162 : (Jvm.Cond.methodLink "SyncTree$Tree" (5 : Nat) ({ cls := "java/lang/Object", name := "<init>", desc := "()V" } : Jvm.MethodName)) ∈ lwg := tb_1 162 rfl rfl
theorem W_1_163 : (Jvm.Cond.fieldLink "SyncTree$Tree" (15 : Nat) "SyncTree$Tree" "space" "LSyncTree$Space;") ∈ lwg := tb_1 163 rfl rfl
theorem W_1_164 : (Jvm.Cond.fieldLink "SyncTree$Tree" (25 : Nat) "SyncTree$Tree" "words" "[J") ∈ lwg := tb_1 164 rfl rfl
theorem W_1_165 : (Jvm.Cond.fieldLink "SyncTree$Tree" (11 : Nat) "SyncTree$Tree" "changed" "[B") ∈ lwg := tb_1 165 rfl rfl
theorem W_1_166 : (Jvm.Cond.laysFinal "SyncTree$Tree" "SyncTree$Tree" "space" "LSyncTree$Space;") ∈ lwg := tb_1 166 rfl rfl
theorem W_1_168 : (Jvm.Cond.laysFinal "SyncTree$Tree" "SyncTree$Tree" "words" "[J") ∈ lwg := tb_1 168 rfl rfl
theorem W_1_170 : (Jvm.Cond.laysFinal "SyncTree$Tree" "SyncTree$Tree" "changed" "[B") ∈ lwg := tb_1 170 rfl rfl
theorem W_1_173 : (Jvm.Cond.classLink "SyncTree" (32 : Nat) "SyncTree$Journal") ∈ lwg := tb_1 173 rfl rfl
theorem W_1_174 : (Jvm.Cond.instantiable "SyncTree$Journal" (18 : Nat)) ∈ lwg := tb_1 174 rfl rfl
theorem W_1_175 : (Jvm.Cond.methodLink "SyncTree" (34 : Nat) ({ cls := "SyncTree$Journal", name := "<init>", desc := "(LSyncTree$Disk;LSyncTree$Space;LSyncTree$Tree;)V" } : Jvm.MethodName)) ∈ lwg := tb_1 175 rfl rfl
theorem W_1_176 : (Jvm.Cond.instanceMethod ({ cls := "SyncTree$Journal", name := "<init>", desc := "(LSyncTree$Disk;LSyncTree$Space;LSyncTree$Tree;)V" } : Jvm.MethodName)) ∈ lwg := tb_1 176 rfl rfl
theorem W_1_177 : (Jvm.Cond.code ({ cls := "SyncTree$Journal", name := "<init>", desc := "(LSyncTree$Disk;LSyncTree$Space;LSyncTree$Tree;)V" } : Jvm.MethodName) prog_3_method_1_code (4 : Nat) (Option.none : Option Jvm.ClassFile.FieldType)) ∈ lwg := tb_1 177 rfl rfl
theorem W_1_178 : (Jvm.Cond.methodLink "SyncTree$Journal" (3 : Nat) ({ cls := "java/lang/Object", name := "<init>", desc := "()V" } : Jvm.MethodName)) ∈ lwg := tb_1 178 rfl rfl
theorem W_1_179 : (Jvm.Cond.classLink "SyncTree$Journal" (9 : Nat) "SyncTree$Row") ∈ lwg := tb_1 179 rfl rfl
theorem W_1_180 : (Jvm.Cond.fieldLink "SyncTree$Journal" (21 : Nat) "SyncTree$Journal" "disk" "LSyncTree$Disk;") ∈ lwg := tb_1 180 rfl rfl
theorem W_1_181 : (Jvm.Cond.fieldLink "SyncTree$Journal" (25 : Nat) "SyncTree$Journal" "space" "LSyncTree$Space;") ∈ lwg := tb_1 181 rfl rfl
theorem W_1_182 : (Jvm.Cond.fieldLink "SyncTree$Journal" (29 : Nat) "SyncTree$Journal" "tree" "LSyncTree$Tree;") ∈ lwg := tb_1 182 rfl rfl
theorem W_1_183 : (Jvm.Cond.fieldLink "SyncTree$Journal" (11 : Nat) "SyncTree$Journal" "base" "[LSyncTree$Row;") ∈ lwg := tb_1 183 rfl rfl
theorem W_1_184 : (Jvm.Cond.fieldLink "SyncTree$Journal" (17 : Nat) "SyncTree$Journal" "marks" "[B") ∈ lwg := tb_1 184 rfl rfl
theorem W_1_185 : (Jvm.Cond.fieldLink "SyncTree$Journal" (152 : Nat) "SyncTree$Journal" "oldest" "LSyncTree$Transaction;") ∈ lwg := tb_1 185 rfl rfl
theorem W_1_186 : (Jvm.Cond.fieldLink "SyncTree$Journal" (148 : Nat) "SyncTree$Journal" "newest" "LSyncTree$Transaction;") ∈ lwg := tb_1 186 rfl rfl
theorem W_1_187 : (Jvm.Cond.fieldLink "SyncTree$Journal" (95 : Nat) "SyncTree$Journal" "spare" "LSyncTree$Row;") ∈ lwg := tb_1 187 rfl rfl
theorem W_1_188 : (Jvm.Cond.fieldLink "SyncTree$Journal" (46 : Nat) "SyncTree$Journal" "log" "I") ∈ lwg := tb_1 188 rfl rfl
theorem W_1_189 : (Jvm.Cond.fieldLink "SyncTree$Journal" (81 : Nat) "SyncTree$Journal" "used" "I") ∈ lwg := tb_1 189 rfl rfl
theorem W_1_190 : (Jvm.Cond.fieldLink "SyncTree$Journal" (84 : Nat) "SyncTree$Journal" "position" "I") ∈ lwg := tb_1 190 rfl rfl
theorem W_1_191 : (Jvm.Cond.fieldLink "SyncTree$Journal" (49 : Nat) "SyncTree$Journal" "basePosition" "I") ∈ lwg := tb_1 191 rfl rfl
theorem W_1_192 : (Jvm.Cond.fieldLink "SyncTree$Journal" (66 : Nat) "SyncTree$Journal" "latest" "I") ∈ lwg := tb_1 192 rfl rfl
theorem W_1_193 : (Jvm.Cond.fieldLink "SyncTree$Journal" (69 : Nat) "SyncTree$Journal" "durable" "I") ∈ lwg := tb_1 193 rfl rfl
theorem W_1_194 : (Jvm.Cond.fieldLink "SyncTree$Journal" (72 : Nat) "SyncTree$Journal" "applied" "I") ∈ lwg := tb_1 194 rfl rfl
theorem W_1_195 : (Jvm.Cond.fieldLink "SyncTree$Journal" (75 : Nat) "SyncTree$Journal" "tail" "I") ∈ lwg := tb_1 195 rfl rfl
theorem W_1_196 : (Jvm.Cond.fieldLink "SyncTree$Journal" (78 : Nat) "SyncTree$Journal" "keptTail" "I") ∈ lwg := tb_1 196 rfl rfl
theorem W_1_197 : (Jvm.Cond.fieldLink "SyncTree$Journal" (52 : Nat) "SyncTree$Journal" "stamp" "I") ∈ lwg := tb_1 197 rfl rfl
theorem W_1_198 : (Jvm.Cond.laysFinal "SyncTree$Journal" "SyncTree$Journal" "disk" "LSyncTree$Disk;") ∈ lwg := tb_1 198 rfl rfl
theorem W_1_200 : (Jvm.Cond.laysFinal "SyncTree$Journal" "SyncTree$Journal" "space" "LSyncTree$Space;") ∈ lwg := tb_1 200 rfl rfl
theorem W_1_202 : (Jvm.Cond.laysFinal "SyncTree$Journal" "SyncTree$Journal" "tree" "LSyncTree$Tree;") ∈ lwg := tb_1 202 rfl rfl
theorem W_1_204 : (Jvm.Cond.laysFinal "SyncTree$Journal" "SyncTree$Journal" "base" "[LSyncTree$Row;") ∈ lwg := tb_1 204 rfl rfl
theorem W_1_206 : (Jvm.Cond.laysFinal "SyncTree$Journal" "SyncTree$Journal" "marks" "[B") ∈ lwg := tb_1 206 rfl rfl
theorem W_1_208 : (Jvm.Cond.lays "SyncTree$Journal" "SyncTree$Journal" "oldest" "LSyncTree$Transaction;") ∈ lwg := tb_1 208 rfl rfl
theorem W_1_210 : (Jvm.Cond.lays "SyncTree$Journal" "SyncTree$Journal" "newest" "LSyncTree$Transaction;") ∈ lwg := tb_1 210 rfl rfl
theorem W_1_212 : (Jvm.Cond.lays "SyncTree$Journal" "SyncTree$Journal" "spare" "LSyncTree$Row;") ∈ lwg := tb_1 212 rfl rfl
theorem W_1_214 : (Jvm.Cond.lays "SyncTree$Journal" "SyncTree$Journal" "log" "I") ∈ lwg := tb_1 214 rfl rfl
theorem W_1_216 : (Jvm.Cond.lays "SyncTree$Journal" "SyncTree$Journal" "used" "I") ∈ lwg := tb_1 216 rfl rfl
theorem W_1_218 : (Jvm.Cond.lays "SyncTree$Journal" "SyncTree$Journal" "position" "I") ∈ lwg := tb_1 218 rfl rfl
theorem W_1_220 : (Jvm.Cond.lays "SyncTree$Journal" "SyncTree$Journal" "basePosition" "I") ∈ lwg := tb_1 220 rfl rfl
theorem W_1_222 : (Jvm.Cond.lays "SyncTree$Journal" "SyncTree$Journal" "latest" "I") ∈ lwg := tb_1 222 rfl rfl
theorem W_1_224 : (Jvm.Cond.lays "SyncTree$Journal" "SyncTree$Journal" "durable" "I") ∈ lwg := tb_1 224 rfl rfl
theorem W_1_226 : (Jvm.Cond.lays "SyncTree$Journal" "SyncTree$Journal" "applied" "I") ∈ lwg := tb_1 226 rfl rfl
theorem W_1_228 : (Jvm.Cond.lays "SyncTree$Journal" "SyncTree$Journal" "tail" "I") ∈ lwg := tb_1 228 rfl rfl
theorem W_1_230 : (Jvm.Cond.lays "SyncTree$Journal" "SyncTree$Journal" "keptTail" "I") ∈ lwg := tb_1 230 rfl rfl
theorem W_1_232 : (Jvm.Cond.lays "SyncTree$Journal" "SyncTree$Journal" "stamp" "I") ∈ lwg := tb_1 232 rfl rfl
theorem W_1_235 : (Jvm.Cond.classLink "SyncTree" (41 : Nat) "SyncTree$Loader") ∈ lwg := tb_1 235 rfl rfl
theorem W_1_236 : (Jvm.Cond.instantiable "SyncTree$Loader" (4 : Nat)) ∈ lwg := tb_1 236 rfl rfl
theorem W_1_237 : (Jvm.Cond.methodLink "SyncTree" (43 : Nat) ({ cls := "SyncTree$Loader", name := "<init>", desc := "(LSyncTree$Disk;LSyncTree$Space;LSyncTree$Tree;LSyncTree$Journal;)V" } : Jvm.MethodName)) ∈ lwg := tb_1 237 rfl rfl
theorem W_1_238 : (Jvm.Cond.instanceMethod ({ cls := "SyncTree$Loader", name := "<init>", desc := "(LSyncTree$Disk;LSyncTree$Space;LSyncTree$Tree;LSyncTree$Journal;)V" } : Jvm.MethodName)) ∈ lwg := tb_1 238 rfl rfl
theorem W_1_239 : (Jvm.Cond.code ({ cls := "SyncTree$Loader", name := "<init>", desc := "(LSyncTree$Disk;LSyncTree$Space;LSyncTree$Tree;LSyncTree$Journal;)V" } : Jvm.MethodName) prog_4_method_1_code (5 : Nat) (Option.none : Option Jvm.ClassFile.FieldType)) ∈ lwg := tb_1 239 rfl rfl
theorem W_2_0 : (Jvm.Cond.methodLink "SyncTree$Loader" (3 : Nat) ({ cls := "java/lang/Object", name := "<init>", desc := "()V" } : Jvm.MethodName)) ∈ lwg := tb_2 0 rfl rfl
theorem W_2_1 : (Jvm.Cond.fieldLink "SyncTree$Loader" (9 : Nat) "SyncTree$Loader" "disk" "LSyncTree$Disk;") ∈ lwg := tb_2 1 rfl rfl
theorem W_2_2 : (Jvm.Cond.fieldLink "SyncTree$Loader" (15 : Nat) "SyncTree$Loader" "space" "LSyncTree$Space;") ∈ lwg := tb_2 2 rfl rfl
theorem W_2_3 : (Jvm.Cond.fieldLink "SyncTree$Loader" (19 : Nat) "SyncTree$Loader" "tree" "LSyncTree$Tree;") ∈ lwg := tb_2 3 rfl rfl
theorem W_2_4 : (Jvm.Cond.fieldLink "SyncTree$Loader" (23 : Nat) "SyncTree$Loader" "journal" "LSyncTree$Journal;") ∈ lwg := tb_2 4 rfl rfl
theorem W_2_5 : (Jvm.Cond.laysFinal "SyncTree$Loader" "SyncTree$Loader" "disk" "LSyncTree$Disk;") ∈ lwg := tb_2 5 rfl rfl
theorem W_2_7 : (Jvm.Cond.laysFinal "SyncTree$Loader" "SyncTree$Loader" "space" "LSyncTree$Space;") ∈ lwg := tb_2 7 rfl rfl
theorem W_2_9 : (Jvm.Cond.laysFinal "SyncTree$Loader" "SyncTree$Loader" "tree" "LSyncTree$Tree;") ∈ lwg := tb_2 9 rfl rfl
theorem W_2_11 : (Jvm.Cond.laysFinal "SyncTree$Loader" "SyncTree$Loader" "journal" "LSyncTree$Journal;") ∈ lwg := tb_2 11 rfl rfl
theorem W_2_14 : (Jvm.Cond.classLink "SyncTree" (50 : Nat) "SyncTree$Walker") ∈ lwg := tb_2 14 rfl rfl
theorem W_2_15 : (Jvm.Cond.instantiable "SyncTree$Walker" (5 : Nat)) ∈ lwg := tb_2 15 rfl rfl
theorem W_2_16 : (Jvm.Cond.methodLink "SyncTree" (52 : Nat) ({ cls := "SyncTree$Walker", name := "<init>", desc := "(LSyncTree$Tree;)V" } : Jvm.MethodName)) ∈ lwg := tb_2 16 rfl rfl
theorem W_2_17 : (Jvm.Cond.instanceMethod ({ cls := "SyncTree$Walker", name := "<init>", desc := "(LSyncTree$Tree;)V" } : Jvm.MethodName)) ∈ lwg := tb_2 17 rfl rfl
theorem W_2_18 : (Jvm.Cond.code ({ cls := "SyncTree$Walker", name := "<init>", desc := "(LSyncTree$Tree;)V" } : Jvm.MethodName) prog_11_method_1_code (2 : Nat) (Option.none : Option Jvm.ClassFile.FieldType)) ∈ lwg := tb_2 18 rfl rfl
theorem W_2_19 : (Jvm.Cond.methodLink "SyncTree$Walker" (3 : Nat) ({ cls := "java/lang/Object", name := "<init>", desc := "()V" } : Jvm.MethodName)) ∈ lwg := tb_2 19 rfl rfl
theorem W_2_20 : (Jvm.Cond.fieldLink "SyncTree$Walker" (15 : Nat) "SyncTree$Walker" "tree" "LSyncTree$Tree;") ∈ lwg := tb_2 20 rfl rfl
theorem W_2_21 : (Jvm.Cond.fieldLink "SyncTree$Walker" (11 : Nat) "SyncTree$Walker" "text" "[B") ∈ lwg := tb_2 21 rfl rfl
theorem W_2_22 : (Jvm.Cond.fieldLink "SyncTree$Walker" (63 : Nat) "SyncTree$Walker" "at" "I") ∈ lwg := tb_2 22 rfl rfl
theorem W_2_23 : (Jvm.Cond.fieldLink "SyncTree$Walker" (51 : Nat) "SyncTree$Walker" "end" "I") ∈ lwg := tb_2 23 rfl rfl
theorem W_2_24 : (Jvm.Cond.fieldLink "SyncTree$Walker" (66 : Nat) "SyncTree$Walker" "links" "I") ∈ lwg := tb_2 24 rfl rfl
theorem W_2_25 : (Jvm.Cond.laysFinal "SyncTree$Walker" "SyncTree$Walker" "tree" "LSyncTree$Tree;") ∈ lwg := tb_2 25 rfl rfl
theorem W_2_27 : (Jvm.Cond.laysFinal "SyncTree$Walker" "SyncTree$Walker" "text" "[B") ∈ lwg := tb_2 27 rfl rfl
theorem W_2_29 : (Jvm.Cond.lays "SyncTree$Walker" "SyncTree$Walker" "at" "I") ∈ lwg := tb_2 29 rfl rfl
theorem W_2_31 : (Jvm.Cond.lays "SyncTree$Walker" "SyncTree$Walker" "end" "I") ∈ lwg := tb_2 31 rfl rfl
theorem W_2_33 : (Jvm.Cond.lays "SyncTree$Walker" "SyncTree$Walker" "links" "I") ∈ lwg := tb_2 33 rfl rfl
theorem W_2_36 : (Jvm.Cond.classLink "SyncTree" (59 : Nat) "SyncTree$Tape") ∈ lwg := tb_2 36 rfl rfl
theorem W_2_37 : (Jvm.Cond.instantiable "SyncTree$Tape" (2 : Nat)) ∈ lwg := tb_2 37 rfl rfl
theorem W_2_38 : (Jvm.Cond.methodLinkNest "SyncTree" (61 : Nat) ({ cls := "SyncTree$Tape", name := "<init>", desc := "()V" } : Jvm.MethodName) "SyncTree") ∈ lwg := tb_2 38 rfl rfl
theorem W_2_39 : (Jvm.Cond.instanceMethod ({ cls := "SyncTree$Tape", name := "<init>", desc := "()V" } : Jvm.MethodName)) ∈ lwg := tb_2 39 rfl rfl
theorem W_2_40 : (Jvm.Cond.code ({ cls := "SyncTree$Tape", name := "<init>", desc := "()V" } : Jvm.MethodName) prog_8_method_1_code (1 : Nat) (Option.none : Option Jvm.ClassFile.FieldType)) ∈ lwg := tb_2 40 rfl rfl
theorem W_2_41 : (Jvm.Cond.methodLink "SyncTree$Tape" (3 : Nat) ({ cls := "java/lang/Object", name := "<init>", desc := "()V" } : Jvm.MethodName)) ∈ lwg := tb_2 41 rfl rfl
theorem W_2_42 : (Jvm.Cond.fieldLink "SyncTree$Tape" (11 : Nat) "SyncTree$Tape" "bytes" "[B") ∈ lwg := tb_2 42 rfl rfl
theorem W_2_43 : (Jvm.Cond.fieldLink "SyncTree$Tape" (15 : Nat) "SyncTree$Tape" "length" "I") ∈ lwg := tb_2 43 rfl rfl
theorem W_2_44 : (Jvm.Cond.fieldLinkNest "SyncTree" (115 : Nat) "SyncTree$Tape" "length" "I" "SyncTree") ∈ lwg := tb_2 44 rfl rfl
theorem W_2_45 : (Jvm.Cond.laysFinal "SyncTree$Tape" "SyncTree$Tape" "bytes" "[B") ∈ lwg := tb_2 45 rfl rfl
theorem W_2_47 : (Jvm.Cond.lays "SyncTree$Tape" "SyncTree$Tape" "length" "I") ∈ lwg := tb_2 47 rfl rfl
theorem W_2_50 : (Jvm.Cond.classLink "SyncTree" (66 : Nat) "SyncTree$PathText") ∈ lwg := tb_2 50 rfl rfl
theorem W_2_51 : (Jvm.Cond.instantiable "SyncTree$PathText" (5 : Nat)) ∈ lwg := tb_2 51 rfl rfl
theorem W_2_52 : (Jvm.Cond.methodLinkNest "SyncTree" (68 : Nat) ({ cls := "SyncTree$PathText", name := "<init>", desc := "()V" } : Jvm.MethodName) "SyncTree") ∈ lwg := tb_2 52 rfl rfl
theorem W_2_53 : (Jvm.Cond.instanceMethod ({ cls := "SyncTree$PathText", name := "<init>", desc := "()V" } : Jvm.MethodName)) ∈ lwg := tb_2 53 rfl rfl
theorem W_2_54 : (Jvm.Cond.code ({ cls := "SyncTree$PathText", name := "<init>", desc := "()V" } : Jvm.MethodName) prog_5_method_1_code (1 : Nat) (Option.none : Option Jvm.ClassFile.FieldType)) ∈ lwg := tb_2 54 rfl rfl
theorem W_2_55 : (Jvm.Cond.methodLink "SyncTree$PathText" (3 : Nat) ({ cls := "java/lang/Object", name := "<init>", desc := "()V" } : Jvm.MethodName)) ∈ lwg := tb_2 55 rfl rfl
theorem W_2_56 : (Jvm.Cond.fieldLink "SyncTree$PathText" (9 : Nat) "SyncTree$PathText" "bytes" "[B") ∈ lwg := tb_2 56 rfl rfl
theorem W_2_57 : (Jvm.Cond.fieldLinkNest "SyncTree$Walker" (54 : Nat) "SyncTree$PathText" "bytes" "[B" "SyncTree") ∈ lwg := tb_2 57 rfl rfl
theorem W_2_58 : (Jvm.Cond.fieldLinkNest "SyncTree$Tree" (76 : Nat) "SyncTree$PathText" "bytes" "[B" "SyncTree") ∈ lwg := tb_2 58 rfl rfl
theorem W_2_59 : (Jvm.Cond.fieldLink "SyncTree$PathText" (15 : Nat) "SyncTree$PathText" "length" "I") ∈ lwg := tb_2 59 rfl rfl
theorem W_2_60 : (Jvm.Cond.fieldLinkNest "SyncTree$Walker" (19 : Nat) "SyncTree$PathText" "length" "I" "SyncTree") ∈ lwg := tb_2 60 rfl rfl
theorem W_2_61 : (Jvm.Cond.fieldLinkNest "SyncTree" (138 : Nat) "SyncTree$PathText" "length" "I" "SyncTree") ∈ lwg := tb_2 61 rfl rfl
theorem W_2_62 : (Jvm.Cond.fieldLinkNest "SyncTree$Tree" (67 : Nat) "SyncTree$PathText" "length" "I" "SyncTree") ∈ lwg := tb_2 62 rfl rfl
theorem W_2_63 : (Jvm.Cond.fieldLink "SyncTree$PathText" (19 : Nat) "SyncTree$PathText" "lastStart" "I") ∈ lwg := tb_2 63 rfl rfl
theorem W_2_64 : (Jvm.Cond.fieldLinkNest "SyncTree$Walker" (29 : Nat) "SyncTree$PathText" "lastStart" "I" "SyncTree") ∈ lwg := tb_2 64 rfl rfl
theorem W_2_65 : (Jvm.Cond.fieldLinkNest "SyncTree$Tree" (175 : Nat) "SyncTree$PathText" "lastStart" "I" "SyncTree") ∈ lwg := tb_2 65 rfl rfl
theorem W_2_66 : (Jvm.Cond.fieldLink "SyncTree$PathText" (22 : Nat) "SyncTree$PathText" "lastLength" "I") ∈ lwg := tb_2 66 rfl rfl
theorem W_2_67 : (Jvm.Cond.fieldLinkNest "SyncTree" (161 : Nat) "SyncTree$PathText" "lastLength" "I" "SyncTree") ∈ lwg := tb_2 67 rfl rfl
theorem W_2_68 : (Jvm.Cond.fieldLinkNest "SyncTree$Tree" (178 : Nat) "SyncTree$PathText" "lastLength" "I" "SyncTree") ∈ lwg := tb_2 68 rfl rfl
theorem W_2_69 : (Jvm.Cond.fieldLinkNest "SyncTree" (181 : Nat) "SyncTree$PathText" "directory" "I" "SyncTree") ∈ lwg := tb_2 69 rfl rfl
theorem W_2_70 : (Jvm.Cond.laysFinal "SyncTree$PathText" "SyncTree$PathText" "bytes" "[B") ∈ lwg := tb_2 70 rfl rfl
theorem W_2_72 : (Jvm.Cond.lays "SyncTree$PathText" "SyncTree$PathText" "length" "I") ∈ lwg := tb_2 72 rfl rfl
theorem W_2_74 : (Jvm.Cond.lays "SyncTree$PathText" "SyncTree$PathText" "lastStart" "I") ∈ lwg := tb_2 74 rfl rfl
theorem W_2_76 : (Jvm.Cond.lays "SyncTree$PathText" "SyncTree$PathText" "lastLength" "I") ∈ lwg := tb_2 76 rfl rfl
theorem W_2_78 : (Jvm.Cond.lays "SyncTree$PathText" "SyncTree$PathText" "directory" "I") ∈ lwg := tb_2 78 rfl rfl
theorem W_2_81 : (Jvm.Cond.methodLink "SyncTree" (80 : Nat) ({ cls := "SyncTree", name := "begin", desc := "(II)V" } : Jvm.MethodName)) ∈ lwg := tb_2 81 rfl rfl
theorem W_2_83 : (Jvm.Cond.instanceMethod ({ cls := "SyncTree", name := "begin", desc := "(II)V" } : Jvm.MethodName)) ∈ lwg := tb_2 83 rfl rfl
theorem W_2_84 : (Jvm.Cond.code ({ cls := "SyncTree", name := "begin", desc := "(II)V" } : Jvm.MethodName) prog_1_method_3_code (3 : Nat) (Option.none : Option Jvm.ClassFile.FieldType)) ∈ lwg := tb_2 84 rfl rfl
theorem W_2_85 : (Jvm.Cond.methodLink "SyncTree" (84 : Nat) ({ cls := "SyncTree$Journal", name := "forget", desc := "()V" } : Jvm.MethodName)) ∈ lwg := tb_2 85 rfl rfl
theorem W_2_86 : (Jvm.Cond.instanceMethod ({ cls := "SyncTree$Journal", name := "forget", desc := "()V" } : Jvm.MethodName)) ∈ lwg := tb_2 86 rfl rfl
theorem W_2_87 : (Jvm.Cond.selects "SyncTree$Journal" ({ cls := "SyncTree$Journal", name := "forget", desc := "()V" } : Jvm.MethodName) ({ cls := "SyncTree$Journal", name := "forget", desc := "()V" } : Jvm.MethodName)) ∈ lwg := tb_2 87 rfl rfl
theorem W_2_88 : (Jvm.Cond.code ({ cls := "SyncTree$Journal", name := "forget", desc := "()V" } : Jvm.MethodName) prog_3_method_2_code (2 : Nat) (Option.none : Option Jvm.ClassFile.FieldType)) ∈ lwg := tb_2 88 rfl rfl
theorem W_2_89 : (Jvm.Cond.methodLink "SyncTree$Journal" (33 : Nat) ({ cls := "SyncTree$Journal", name := "dropAll", desc := "()V" } : Jvm.MethodName)) ∈ lwg := tb_2 89 rfl rfl
theorem W_2_91 : (Jvm.Cond.instanceMethod ({ cls := "SyncTree$Journal", name := "dropAll", desc := "()V" } : Jvm.MethodName)) ∈ lwg := tb_2 91 rfl rfl
theorem W_2_92 : (Jvm.Cond.code ({ cls := "SyncTree$Journal", name := "dropAll", desc := "()V" } : Jvm.MethodName) prog_3_method_16_code (3 : Nat) (Option.none : Option Jvm.ClassFile.FieldType)) ∈ lwg := tb_2 92 rfl rfl
theorem W_2_93 : (Jvm.Cond.methodLink "SyncTree$Journal" (103 : Nat) ({ cls := "SyncTree$Journal", name := "giveRow", desc := "(LSyncTree$Row;)V" } : Jvm.MethodName)) ∈ lwg := tb_2 93 rfl rfl
theorem W_2_95 : (Jvm.Cond.instanceMethod ({ cls := "SyncTree$Journal", name := "giveRow", desc := "(LSyncTree$Row;)V" } : Jvm.MethodName)) ∈ lwg := tb_2 95 rfl rfl
theorem W_2_96 : (Jvm.Cond.code ({ cls := "SyncTree$Journal", name := "giveRow", desc := "(LSyncTree$Row;)V" } : Jvm.MethodName) prog_3_method_6_code (2 : Nat) (Option.none : Option Jvm.ClassFile.FieldType)) ∈ lwg := tb_2 96 rfl rfl
theorem W_2_97 : (Jvm.Cond.methodLink "SyncTree$Journal" (42 : Nat) ({ cls := "SyncTree$Journal", name := "setBase", desc := "(ILSyncTree$Row;)V" } : Jvm.MethodName)) ∈ lwg := tb_2 97 rfl rfl
theorem W_2_99 : (Jvm.Cond.instanceMethod ({ cls := "SyncTree$Journal", name := "setBase", desc := "(ILSyncTree$Row;)V" } : Jvm.MethodName)) ∈ lwg := tb_2 99 rfl rfl
theorem W_2_100 : (Jvm.Cond.code ({ cls := "SyncTree$Journal", name := "setBase", desc := "(ILSyncTree$Row;)V" } : Jvm.MethodName) prog_3_method_7_code (3 : Nat) (Option.none : Option Jvm.ClassFile.FieldType)) ∈ lwg := tb_2 100 rfl rfl
theorem W_2_101 : (Jvm.Cond.methodLink "SyncTree" (87 : Nat) ({ cls := "SyncTree$Disk", name := "reset", desc := "(I)V" } : Jvm.MethodName)) ∈ lwg := tb_2 101 rfl rfl
theorem W_2_102 : (Jvm.Cond.instanceMethod ({ cls := "SyncTree$Disk", name := "reset", desc := "(I)V" } : Jvm.MethodName)) ∈ lwg := tb_2 102 rfl rfl
theorem W_2_103 : (Jvm.Cond.selects "SyncTree$Disk" ({ cls := "SyncTree$Disk", name := "reset", desc := "(I)V" } : Jvm.MethodName) ({ cls := "SyncTree$Disk", name := "reset", desc := "(I)V" } : Jvm.MethodName)) ∈ lwg := tb_2 103 rfl rfl
theorem W_2_104 : (Jvm.Cond.code ({ cls := "SyncTree$Disk", name := "reset", desc := "(I)V" } : Jvm.MethodName) prog_2_method_2_code (3 : Nat) (Option.none : Option Jvm.ClassFile.FieldType)) ∈ lwg := tb_2 104 rfl rfl
theorem W_2_105 : (Jvm.Cond.methodLink "SyncTree$Disk" (44 : Nat) ({ cls := "java/lang/Math", name := "min", desc := "(II)I" } : Jvm.MethodName)) ∈ lwg := tb_2 105 rfl rfl
theorem W_2_106 : (Jvm.Cond.static ({ cls := "java/lang/Math", name := "min", desc := "(II)I" } : Jvm.MethodName)) ∈ lwg := tb_2 106 rfl rfl
theorem W_2_107 : (Jvm.Cond.code ({ cls := "java/lang/Math", name := "min", desc := "(II)I" } : Jvm.MethodName) prog_17_method_69_code (2 : Nat) (Option.some Jvm.ClassFile.FieldType.int)) ∈ lwg := tb_2 107 rfl rfl
theorem W_2_108 : (Jvm.Cond.methodLink "SyncTree$Disk" (50 : Nat) ({ cls := "java/lang/Math", name := "max", desc := "(II)I" } : Jvm.MethodName)) ∈ lwg := tb_2 108 rfl rfl
theorem W_2_109 : (Jvm.Cond.static ({ cls := "java/lang/Math", name := "max", desc := "(II)I" } : Jvm.MethodName)) ∈ lwg := tb_2 109 rfl rfl
theorem W_2_110 : (Jvm.Cond.code ({ cls := "java/lang/Math", name := "max", desc := "(II)I" } : Jvm.MethodName) prog_17_method_65_code (2 : Nat) (Option.some Jvm.ClassFile.FieldType.int)) ∈ lwg := tb_2 110 rfl rfl
theorem W_2_111 : (Jvm.Cond.methodLink "SyncTree" (91 : Nat) ({ cls := "SyncTree$Space", name := "reset", desc := "(II)V" } : Jvm.MethodName)) ∈ lwg := tb_2 111 rfl rfl
theorem W_2_112 : (Jvm.Cond.instanceMethod ({ cls := "SyncTree$Space", name := "reset", desc := "(II)V" } : Jvm.MethodName)) ∈ lwg := tb_2 112 rfl rfl
theorem W_2_113 : (Jvm.Cond.selects "SyncTree$Space" ({ cls := "SyncTree$Space", name := "reset", desc := "(II)V" } : Jvm.MethodName) ({ cls := "SyncTree$Space", name := "reset", desc := "(II)V" } : Jvm.MethodName)) ∈ lwg := tb_2 113 rfl rfl
theorem W_2_114 : (Jvm.Cond.code ({ cls := "SyncTree$Space", name := "reset", desc := "(II)V" } : Jvm.MethodName) prog_7_method_2_code (4 : Nat) (Option.none : Option Jvm.ClassFile.FieldType)) ∈ lwg := tb_2 114 rfl rfl
theorem W_2_115 : (Jvm.Cond.methodLink "SyncTree$Space" (36 : Nat) ({ cls := "SyncTree$Space", name := "forgetMarks", desc := "()V" } : Jvm.MethodName)) ∈ lwg := tb_2 115 rfl rfl
theorem W_2_117 : (Jvm.Cond.instanceMethod ({ cls := "SyncTree$Space", name := "forgetMarks", desc := "()V" } : Jvm.MethodName)) ∈ lwg := tb_2 117 rfl rfl
theorem W_2_118 : (Jvm.Cond.code ({ cls := "SyncTree$Space", name := "forgetMarks", desc := "()V" } : Jvm.MethodName) prog_7_method_3_code (2 : Nat) (Option.none : Option Jvm.ClassFile.FieldType)) ∈ lwg := tb_2 118 rfl rfl
theorem W_2_119 : (Jvm.Cond.methodLink "SyncTree$Space" (68 : Nat) ({ cls := "SyncTree$Space", name := "clean", desc := "(I)V" } : Jvm.MethodName)) ∈ lwg := tb_2 119 rfl rfl
theorem W_2_120 : (Jvm.Cond.instanceMethod ({ cls := "SyncTree$Space", name := "clean", desc := "(I)V" } : Jvm.MethodName)) ∈ lwg := tb_2 120 rfl rfl
theorem W_2_121 : (Jvm.Cond.selects "SyncTree$Space" ({ cls := "SyncTree$Space", name := "clean", desc := "(I)V" } : Jvm.MethodName) ({ cls := "SyncTree$Space", name := "clean", desc := "(I)V" } : Jvm.MethodName)) ∈ lwg := tb_2 121 rfl rfl
theorem W_2_122 : (Jvm.Cond.code ({ cls := "SyncTree$Space", name := "clean", desc := "(I)V" } : Jvm.MethodName) prog_7_method_22_code (2 : Nat) (Option.none : Option Jvm.ClassFile.FieldType)) ∈ lwg := tb_2 122 rfl rfl
theorem W_2_123 : (Jvm.Cond.methodLink "SyncTree$Space" (75 : Nat) ({ cls := "SyncTree$Space", name := "emptyGroup", desc := "(I)V" } : Jvm.MethodName)) ∈ lwg := tb_2 123 rfl rfl
theorem W_2_124 : (Jvm.Cond.instanceMethod ({ cls := "SyncTree$Space", name := "emptyGroup", desc := "(I)V" } : Jvm.MethodName)) ∈ lwg := tb_2 124 rfl rfl
theorem W_2_125 : (Jvm.Cond.selects "SyncTree$Space" ({ cls := "SyncTree$Space", name := "emptyGroup", desc := "(I)V" } : Jvm.MethodName) ({ cls := "SyncTree$Space", name := "emptyGroup", desc := "(I)V" } : Jvm.MethodName)) ∈ lwg := tb_2 125 rfl rfl
theorem W_2_126 : (Jvm.Cond.code ({ cls := "SyncTree$Space", name := "emptyGroup", desc := "(I)V" } : Jvm.MethodName) prog_7_method_4_code (3 : Nat) (Option.none : Option Jvm.ClassFile.FieldType)) ∈ lwg := tb_2 126 rfl rfl
theorem W_2_127 : (Jvm.Cond.methodLink "SyncTree$Space" (39 : Nat) ({ cls := "java/lang/Math", name := "min", desc := "(II)I" } : Jvm.MethodName)) ∈ lwg := tb_2 127 rfl rfl
theorem W_2_128 : (Jvm.Cond.methodLink "SyncTree$Space" (45 : Nat) ({ cls := "java/lang/Math", name := "max", desc := "(II)I" } : Jvm.MethodName)) ∈ lwg := tb_2 128 rfl rfl
theorem W_2_129 : (Jvm.Cond.methodLink "SyncTree$Space" (58 : Nat) ({ cls := "SyncTree$Space", name := "load", desc := "(ILSyncTree$Row;)V" } : Jvm.MethodName)) ∈ lwg := tb_2 129 rfl rfl
theorem W_2_130 : (Jvm.Cond.instanceMethod ({ cls := "SyncTree$Space", name := "load", desc := "(ILSyncTree$Row;)V" } : Jvm.MethodName)) ∈ lwg := tb_2 130 rfl rfl
theorem W_2_131 : (Jvm.Cond.selects "SyncTree$Space" ({ cls := "SyncTree$Space", name := "load", desc := "(ILSyncTree$Row;)V" } : Jvm.MethodName) ({ cls := "SyncTree$Space", name := "load", desc := "(ILSyncTree$Row;)V" } : Jvm.MethodName)) ∈ lwg := tb_2 131 rfl rfl
theorem W_2_132 : (Jvm.Cond.code ({ cls := "SyncTree$Space", name := "load", desc := "(ILSyncTree$Row;)V" } : Jvm.MethodName) prog_7_method_18_code (4 : Nat) (Option.none : Option Jvm.ClassFile.FieldType)) ∈ lwg := tb_2 132 rfl rfl
theorem W_2_133 : (Jvm.Cond.methodLink "SyncTree$Space" (116 : Nat) ({ cls := "java/lang/System", name := "arraycopy", desc := "(Ljava/lang/Object;ILjava/lang/Object;II)V" } : Jvm.MethodName)) ∈ lwg := tb_2 133 rfl rfl
theorem W_2_134 : (Jvm.Cond.static ({ cls := "java/lang/System", name := "arraycopy", desc := "(Ljava/lang/Object;ILjava/lang/Object;II)V" } : Jvm.MethodName)) ∈ lwg := tb_2 134 rfl rfl
theorem W_2_135 : (Jvm.Cond.native ({ cls := "java/lang/System", name := "arraycopy", desc := "(Ljava/lang/Object;ILjava/lang/Object;II)V" } : Jvm.MethodName)) ∈ lwg := tb_2 135 rfl rfl
theorem W_2_136 : (Jvm.Cond.methodLink "SyncTree$Space" (62 : Nat) ({ cls := "SyncTree$Space", name := "readMap", desc := "()V" } : Jvm.MethodName)) ∈ lwg := tb_2 136 rfl rfl
theorem W_2_137 : (Jvm.Cond.instanceMethod ({ cls := "SyncTree$Space", name := "readMap", desc := "()V" } : Jvm.MethodName)) ∈ lwg := tb_2 137 rfl rfl
theorem W_2_138 : (Jvm.Cond.selects "SyncTree$Space" ({ cls := "SyncTree$Space", name := "readMap", desc := "()V" } : Jvm.MethodName) ({ cls := "SyncTree$Space", name := "readMap", desc := "()V" } : Jvm.MethodName)) ∈ lwg := tb_2 138 rfl rfl
theorem W_2_139 : (Jvm.Cond.code ({ cls := "SyncTree$Space", name := "readMap", desc := "()V" } : Jvm.MethodName) prog_7_method_5_code (4 : Nat) (Option.none : Option Jvm.ClassFile.FieldType)) ∈ lwg := tb_2 139 rfl rfl
theorem W_2_140 : (Jvm.Cond.methodLink "SyncTree$Space" (93 : Nat) ({ cls := "SyncTree$Space", name := "word", desc := "(II)J" } : Jvm.MethodName)) ∈ lwg := tb_2 140 rfl rfl
theorem W_2_141 : (Jvm.Cond.instanceMethod ({ cls := "SyncTree$Space", name := "word", desc := "(II)J" } : Jvm.MethodName)) ∈ lwg := tb_2 141 rfl rfl
theorem W_2_142 : (Jvm.Cond.selects "SyncTree$Space" ({ cls := "SyncTree$Space", name := "word", desc := "(II)J" } : Jvm.MethodName) ({ cls := "SyncTree$Space", name := "word", desc := "(II)J" } : Jvm.MethodName)) ∈ lwg := tb_2 142 rfl rfl
theorem W_2_143 : (Jvm.Cond.code ({ cls := "SyncTree$Space", name := "word", desc := "(II)J" } : Jvm.MethodName) prog_7_method_12_code (3 : Nat) (Option.some Jvm.ClassFile.FieldType.long)) ∈ lwg := tb_2 143 rfl rfl
theorem W_2_144 : (Jvm.Cond.methodLink "SyncTree" (93 : Nat) ({ cls := "SyncTree$Tree", name := "setUp", desc := "(III)V" } : Jvm.MethodName)) ∈ lwg := tb_2 144 rfl rfl
theorem W_2_145 : (Jvm.Cond.instanceMethod ({ cls := "SyncTree$Tree", name := "setUp", desc := "(III)V" } : Jvm.MethodName)) ∈ lwg := tb_2 145 rfl rfl
theorem W_2_146 : (Jvm.Cond.selects "SyncTree$Tree" ({ cls := "SyncTree$Tree", name := "setUp", desc := "(III)V" } : Jvm.MethodName) ({ cls := "SyncTree$Tree", name := "setUp", desc := "(III)V" } : Jvm.MethodName)) ∈ lwg := tb_2 146 rfl rfl
theorem W_2_147 : (Jvm.Cond.code ({ cls := "SyncTree$Tree", name := "setUp", desc := "(III)V" } : Jvm.MethodName) prog_10_method_14_code (5 : Nat) (Option.none : Option Jvm.ClassFile.FieldType)) ∈ lwg := tb_2 147 rfl rfl
theorem W_2_148 : (Jvm.Cond.methodLink "SyncTree$Tree" (56 : Nat) ({ cls := "SyncTree$Tree", name := "setHeader", desc := "(IIIII)V" } : Jvm.MethodName)) ∈ lwg := tb_2 148 rfl rfl
theorem W_2_150 : (Jvm.Cond.instanceMethod ({ cls := "SyncTree$Tree", name := "setHeader", desc := "(IIIII)V" } : Jvm.MethodName)) ∈ lwg := tb_2 150 rfl rfl
theorem W_2_151 : (Jvm.Cond.code ({ cls := "SyncTree$Tree", name := "setHeader", desc := "(IIIII)V" } : Jvm.MethodName) prog_10_method_10_code (6 : Nat) (Option.none : Option Jvm.ClassFile.FieldType)) ∈ lwg := tb_2 151 rfl rfl
theorem W_2_152 : (Jvm.Cond.methodLink "SyncTree$Tree" (36 : Nat) ({ cls := "SyncTree$Tree", name := "setNodeWord", desc := "(IIJ)V" } : Jvm.MethodName)) ∈ lwg := tb_2 152 rfl rfl
theorem W_2_154 : (Jvm.Cond.instanceMethod ({ cls := "SyncTree$Tree", name := "setNodeWord", desc := "(IIJ)V" } : Jvm.MethodName)) ∈ lwg := tb_2 154 rfl rfl
theorem W_2_155 : (Jvm.Cond.code ({ cls := "SyncTree$Tree", name := "setNodeWord", desc := "(IIJ)V" } : Jvm.MethodName) prog_10_method_5_code (5 : Nat) (Option.none : Option Jvm.ClassFile.FieldType)) ∈ lwg := tb_2 155 rfl rfl
theorem W_2_156 : (Jvm.Cond.methodLink "SyncTree$Tree" (26 : Nat) ({ cls := "SyncTree$Space", name := "touch", desc := "(I)V" } : Jvm.MethodName)) ∈ lwg := tb_2 156 rfl rfl
theorem W_2_157 : (Jvm.Cond.instanceMethod ({ cls := "SyncTree$Space", name := "touch", desc := "(I)V" } : Jvm.MethodName)) ∈ lwg := tb_2 157 rfl rfl
theorem W_2_158 : (Jvm.Cond.selects "SyncTree$Space" ({ cls := "SyncTree$Space", name := "touch", desc := "(I)V" } : Jvm.MethodName) ({ cls := "SyncTree$Space", name := "touch", desc := "(I)V" } : Jvm.MethodName)) ∈ lwg := tb_2 158 rfl rfl
theorem W_2_159 : (Jvm.Cond.code ({ cls := "SyncTree$Space", name := "touch", desc := "(I)V" } : Jvm.MethodName) prog_7_method_20_code (2 : Nat) (Option.none : Option Jvm.ClassFile.FieldType)) ∈ lwg := tb_2 159 rfl rfl
theorem W_2_160 : (Jvm.Cond.methodLink "SyncTree$Tree" (63 : Nat) ({ cls := "SyncTree$Tree", name := "noteChange", desc := "(II)V" } : Jvm.MethodName)) ∈ lwg := tb_2 160 rfl rfl
theorem W_2_162 : (Jvm.Cond.instanceMethod ({ cls := "SyncTree$Tree", name := "noteChange", desc := "(II)V" } : Jvm.MethodName)) ∈ lwg := tb_2 162 rfl rfl
theorem W_2_163 : (Jvm.Cond.code ({ cls := "SyncTree$Tree", name := "noteChange", desc := "(II)V" } : Jvm.MethodName) prog_10_method_20_code (3 : Nat) (Option.none : Option Jvm.ClassFile.FieldType)) ∈ lwg := tb_2 163 rfl rfl
theorem W_2_164 : (Jvm.Cond.methodLink "SyncTree" (97 : Nat) ({ cls := "SyncTree$Journal", name := "reset", desc := "(I)V" } : Jvm.MethodName)) ∈ lwg := tb_2 164 rfl rfl
theorem W_2_165 : (Jvm.Cond.instanceMethod ({ cls := "SyncTree$Journal", name := "reset", desc := "(I)V" } : Jvm.MethodName)) ∈ lwg := tb_2 165 rfl rfl
theorem W_2_166 : (Jvm.Cond.selects "SyncTree$Journal" ({ cls := "SyncTree$Journal", name := "reset", desc := "(I)V" } : Jvm.MethodName) ({ cls := "SyncTree$Journal", name := "reset", desc := "(I)V" } : Jvm.MethodName)) ∈ lwg := tb_2 166 rfl rfl
theorem W_2_167 : (Jvm.Cond.code ({ cls := "SyncTree$Journal", name := "reset", desc := "(I)V" } : Jvm.MethodName) prog_3_method_3_code (3 : Nat) (Option.none : Option Jvm.ClassFile.FieldType)) ∈ lwg := tb_2 167 rfl rfl
theorem W_2_168 : (Jvm.Cond.methodLink "SyncTree$Journal" (55 : Nat) ({ cls := "SyncTree$Journal", name := "restart", desc := "(I)V" } : Jvm.MethodName)) ∈ lwg := tb_2 168 rfl rfl
theorem W_2_170 : (Jvm.Cond.instanceMethod ({ cls := "SyncTree$Journal", name := "restart", desc := "(I)V" } : Jvm.MethodName)) ∈ lwg := tb_2 170 rfl rfl
theorem W_2_171 : (Jvm.Cond.code ({ cls := "SyncTree$Journal", name := "restart", desc := "(I)V" } : Jvm.MethodName) prog_3_method_4_code (2 : Nat) (Option.none : Option Jvm.ClassFile.FieldType)) ∈ lwg := tb_2 171 rfl rfl
theorem W_2_172 : (Jvm.Cond.methodLink "SyncTree$Journal" (87 : Nat) ({ cls := "SyncTree$Space", name := "emptyGroup", desc := "(I)V" } : Jvm.MethodName)) ∈ lwg := tb_2 172 rfl rfl
theorem W_2_173 : (Jvm.Cond.methodLink "SyncTree$Journal" (90 : Nat) ({ cls := "SyncTree$Tree", name := "forgetChanges", desc := "()V" } : Jvm.MethodName)) ∈ lwg := tb_2 173 rfl rfl
theorem W_2_174 : (Jvm.Cond.instanceMethod ({ cls := "SyncTree$Tree", name := "forgetChanges", desc := "()V" } : Jvm.MethodName)) ∈ lwg := tb_2 174 rfl rfl
theorem W_2_175 : (Jvm.Cond.selects "SyncTree$Tree" ({ cls := "SyncTree$Tree", name := "forgetChanges", desc := "()V" } : Jvm.MethodName) ({ cls := "SyncTree$Tree", name := "forgetChanges", desc := "()V" } : Jvm.MethodName)) ∈ lwg := tb_2 175 rfl rfl
theorem W_2_176 : (Jvm.Cond.code ({ cls := "SyncTree$Tree", name := "forgetChanges", desc := "()V" } : Jvm.MethodName) prog_10_method_21_code (1 : Nat) (Option.none : Option Jvm.ClassFile.FieldType)) ∈ lwg := tb_2 176 rfl rfl
theorem W_2_177 : (Jvm.Cond.methodLink "SyncTree$Tree" (89 : Nat) ({ cls := "java/util/Arrays", name := "fill", desc := "([BB)V" } : Jvm.MethodName)) ∈ lwg := tb_2 177 rfl rfl
theorem W_2_178 : (Jvm.Cond.static ({ cls := "java/util/Arrays", name := "fill", desc := "([BB)V" } : Jvm.MethodName)) ∈ lwg := tb_2 178 rfl rfl
theorem W_2_179 : (Jvm.Cond.code ({ cls := "java/util/Arrays", name := "fill", desc := "([BB)V" } : Jvm.MethodName) prog_22_method_109_code (4 : Nat) (Option.none : Option Jvm.ClassFile.FieldType)) ∈ lwg := tb_2 179 rfl rfl
theorem W_2_180 : (Jvm.Cond.methodLink "SyncTree$Journal" (59 : Nat) ({ cls := "SyncTree$Journal", name := "takeRow", desc := "()LSyncTree$Row;" } : Jvm.MethodName)) ∈ lwg := tb_2 180 rfl rfl
theorem W_2_182 : (Jvm.Cond.instanceMethod ({ cls := "SyncTree$Journal", name := "takeRow", desc := "()LSyncTree$Row;" } : Jvm.MethodName)) ∈ lwg := tb_2 182 rfl rfl
theorem W_2_183 : (Jvm.Cond.code ({ cls := "SyncTree$Journal", name := "takeRow", desc := "()LSyncTree$Row;" } : Jvm.MethodName) prog_3_method_5_code (2 : Nat) (Option.some (Jvm.ClassFile.FieldType.object "SyncTree$Row"))) ∈ lwg := tb_2 183 rfl rfl
theorem W_2_184 : (Jvm.Cond.instantiable "SyncTree$Row" (2 : Nat)) ∈ lwg := tb_2 184 rfl rfl
theorem W_2_185 : (Jvm.Cond.methodLinkNest "SyncTree$Journal" (99 : Nat) ({ cls := "SyncTree$Row", name := "<init>", desc := "()V" } : Jvm.MethodName) "SyncTree") ∈ lwg := tb_2 185 rfl rfl
theorem W_2_186 : (Jvm.Cond.instanceMethod ({ cls := "SyncTree$Row", name := "<init>", desc := "()V" } : Jvm.MethodName)) ∈ lwg := tb_2 186 rfl rfl
theorem W_2_187 : (Jvm.Cond.code ({ cls := "SyncTree$Row", name := "<init>", desc := "()V" } : Jvm.MethodName) prog_6_method_1_code (1 : Nat) (Option.none : Option Jvm.ClassFile.FieldType)) ∈ lwg := tb_2 187 rfl rfl
theorem W_2_188 : (Jvm.Cond.methodLink "SyncTree$Row" (3 : Nat) ({ cls := "java/lang/Object", name := "<init>", desc := "()V" } : Jvm.MethodName)) ∈ lwg := tb_2 188 rfl rfl
theorem W_2_189 : (Jvm.Cond.fieldLink "SyncTree$Row" (9 : Nat) "SyncTree$Row" "words" "[J") ∈ lwg := tb_2 189 rfl rfl
theorem W_2_190 : (Jvm.Cond.fieldLinkNest "SyncTree$Disk" (91 : Nat) "SyncTree$Row" "words" "[J" "SyncTree") ∈ lwg := tb_2 190 rfl rfl
theorem W_2_191 : (Jvm.Cond.fieldLinkNest "SyncTree$Space" (113 : Nat) "SyncTree$Row" "words" "[J" "SyncTree") ∈ lwg := tb_2 191 rfl rfl
theorem W_2_192 : (Jvm.Cond.fieldLinkNest "SyncTree$Journal" (100 : Nat) "SyncTree$Row" "next" "LSyncTree$Row;" "SyncTree") ∈ lwg := tb_2 192 rfl rfl
theorem W_2_193 : (Jvm.Cond.laysFinal "SyncTree$Row" "SyncTree$Row" "words" "[J") ∈ lwg := tb_2 193 rfl rfl
theorem W_2_195 : (Jvm.Cond.lays "SyncTree$Row" "SyncTree$Row" "next" "LSyncTree$Row;") ∈ lwg := tb_2 195 rfl rfl
theorem W_2_198 : (Jvm.Cond.methodLink "SyncTree$Journal" (63 : Nat) ({ cls := "SyncTree$Space", name := "save", desc := "(ILSyncTree$Row;)V" } : Jvm.MethodName)) ∈ lwg := tb_2 198 rfl rfl
theorem W_2_199 : (Jvm.Cond.instanceMethod ({ cls := "SyncTree$Space", name := "save", desc := "(ILSyncTree$Row;)V" } : Jvm.MethodName)) ∈ lwg := tb_2 199 rfl rfl
theorem W_2_200 : (Jvm.Cond.selects "SyncTree$Space" ({ cls := "SyncTree$Space", name := "save", desc := "(ILSyncTree$Row;)V" } : Jvm.MethodName) ({ cls := "SyncTree$Space", name := "save", desc := "(ILSyncTree$Row;)V" } : Jvm.MethodName)) ∈ lwg := tb_2 200 rfl rfl
theorem W_2_201 : (Jvm.Cond.code ({ cls := "SyncTree$Space", name := "save", desc := "(ILSyncTree$Row;)V" } : Jvm.MethodName) prog_7_method_19_code (3 : Nat) (Option.none : Option Jvm.ClassFile.FieldType)) ∈ lwg := tb_2 201 rfl rfl
theorem W_2_202 : (Jvm.Cond.methodLink "SyncTree" (98 : Nat) ({ cls := "SyncTree$Tape", name := "useUp", desc := "()V" } : Jvm.MethodName)) ∈ lwg := tb_2 202 rfl rfl
theorem W_2_203 : (Jvm.Cond.instanceMethod ({ cls := "SyncTree$Tape", name := "useUp", desc := "()V" } : Jvm.MethodName)) ∈ lwg := tb_2 203 rfl rfl
theorem W_2_204 : (Jvm.Cond.selects "SyncTree$Tape" ({ cls := "SyncTree$Tape", name := "useUp", desc := "()V" } : Jvm.MethodName) ({ cls := "SyncTree$Tape", name := "useUp", desc := "()V" } : Jvm.MethodName)) ∈ lwg := tb_2 204 rfl rfl
theorem W_2_205 : (Jvm.Cond.code ({ cls := "SyncTree$Tape", name := "useUp", desc := "()V" } : Jvm.MethodName) prog_8_method_4_code (1 : Nat) (Option.none : Option Jvm.ClassFile.FieldType)) ∈ lwg := tb_2 205 rfl rfl
theorem W_2_206 : (Jvm.Cond.methodLink "SyncTree" (101 : Nat) ({ cls := "SyncTree$PathText", name := "forget", desc := "()V" } : Jvm.MethodName)) ∈ lwg := tb_2 206 rfl rfl
theorem W_2_207 : (Jvm.Cond.instanceMethod ({ cls := "SyncTree$PathText", name := "forget", desc := "()V" } : Jvm.MethodName)) ∈ lwg := tb_2 207 rfl rfl
theorem W_2_208 : (Jvm.Cond.selects "SyncTree$PathText" ({ cls := "SyncTree$PathText", name := "forget", desc := "()V" } : Jvm.MethodName) ({ cls := "SyncTree$PathText", name := "forget", desc := "()V" } : Jvm.MethodName)) ∈ lwg := tb_2 208 rfl rfl
theorem W_2_209 : (Jvm.Cond.code ({ cls := "SyncTree$PathText", name := "forget", desc := "()V" } : Jvm.MethodName) prog_5_method_2_code (1 : Nat) (Option.none : Option Jvm.ClassFile.FieldType)) ∈ lwg := tb_2 209 rfl rfl
theorem W_2_210 : (Jvm.Cond.methodLink "SyncTree" (102 : Nat) ({ cls := "java/util/Arrays", name := "fill", desc := "([II)V" } : Jvm.MethodName)) ∈ lwg := tb_2 210 rfl rfl
theorem W_2_211 : (Jvm.Cond.static ({ cls := "java/util/Arrays", name := "fill", desc := "([II)V" } : Jvm.MethodName)) ∈ lwg := tb_2 211 rfl rfl
theorem W_2_212 : (Jvm.Cond.code ({ cls := "java/util/Arrays", name := "fill", desc := "([II)V" } : Jvm.MethodName) prog_22_method_103_code (4 : Nat) (Option.none : Option Jvm.ClassFile.FieldType)) ∈ lwg := tb_2 212 rfl rfl
theorem W_2_213 : (Jvm.Cond.fieldLink "SyncTree" (12 : Nat) "SyncTree" "disk" "LSyncTree$Disk;") ∈ lwg := tb_2 213 rfl rfl
theorem W_2_214 : (Jvm.Cond.fieldLink "SyncTree" (19 : Nat) "SyncTree" "space" "LSyncTree$Space;") ∈ lwg := tb_2 214 rfl rfl
theorem W_2_215 : (Jvm.Cond.fieldLink "SyncTree" (28 : Nat) "SyncTree" "tree" "LSyncTree$Tree;") ∈ lwg := tb_2 215 rfl rfl
theorem W_2_216 : (Jvm.Cond.fieldLink "SyncTree" (37 : Nat) "SyncTree" "journal" "LSyncTree$Journal;") ∈ lwg := tb_2 216 rfl rfl
theorem W_2_217 : (Jvm.Cond.fieldLink "SyncTree" (46 : Nat) "SyncTree" "loader" "LSyncTree$Loader;") ∈ lwg := tb_2 217 rfl rfl
theorem W_2_218 : (Jvm.Cond.fieldLink "SyncTree" (55 : Nat) "SyncTree" "walker" "LSyncTree$Walker;") ∈ lwg := tb_2 218 rfl rfl
theorem W_2_219 : (Jvm.Cond.fieldLink "SyncTree" (62 : Nat) "SyncTree" "tape" "LSyncTree$Tape;") ∈ lwg := tb_2 219 rfl rfl
theorem W_2_220 : (Jvm.Cond.fieldLink "SyncTree" (69 : Nat) "SyncTree" "first" "LSyncTree$PathText;") ∈ lwg := tb_2 220 rfl rfl
theorem W_2_221 : (Jvm.Cond.fieldLink "SyncTree" (73 : Nat) "SyncTree" "second" "LSyncTree$PathText;") ∈ lwg := tb_2 221 rfl rfl
theorem W_2_222 : (Jvm.Cond.fieldLink "SyncTree" (76 : Nat) "SyncTree" "handles" "[I") ∈ lwg := tb_2 222 rfl rfl
theorem W_2_223 : (Jvm.Cond.laysFinal "SyncTree" "SyncTree" "disk" "LSyncTree$Disk;") ∈ lwg := tb_2 223 rfl rfl
theorem W_2_225 : (Jvm.Cond.laysFinal "SyncTree" "SyncTree" "space" "LSyncTree$Space;") ∈ lwg := tb_2 225 rfl rfl
theorem W_2_227 : (Jvm.Cond.laysFinal "SyncTree" "SyncTree" "tree" "LSyncTree$Tree;") ∈ lwg := tb_2 227 rfl rfl
theorem W_2_229 : (Jvm.Cond.laysFinal "SyncTree" "SyncTree" "journal" "LSyncTree$Journal;") ∈ lwg := tb_2 229 rfl rfl
theorem W_2_231 : (Jvm.Cond.laysFinal "SyncTree" "SyncTree" "loader" "LSyncTree$Loader;") ∈ lwg := tb_2 231 rfl rfl
theorem W_2_233 : (Jvm.Cond.laysFinal "SyncTree" "SyncTree" "walker" "LSyncTree$Walker;") ∈ lwg := tb_2 233 rfl rfl
theorem W_2_235 : (Jvm.Cond.laysFinal "SyncTree" "SyncTree" "tape" "LSyncTree$Tape;") ∈ lwg := tb_2 235 rfl rfl
theorem W_2_237 : (Jvm.Cond.laysFinal "SyncTree" "SyncTree" "first" "LSyncTree$PathText;") ∈ lwg := tb_2 237 rfl rfl
theorem W_2_239 : (Jvm.Cond.laysFinal "SyncTree" "SyncTree" "second" "LSyncTree$PathText;") ∈ lwg := tb_2 239 rfl rfl
theorem W_3_1 : (Jvm.Cond.laysFinal "SyncTree" "SyncTree" "handles" "[I") ∈ lwg := tb_3 1 rfl rfl
theorem W_3_4 : (Jvm.Cond.methodLink "SyncTreeLaw" (103 : Nat) ({ cls := "SyncTree", name := "format", desc := "(II)I" } : Jvm.MethodName)) ∈ lwg := tb_3 4 rfl rfl
theorem W_3_5 : (Jvm.Cond.instanceMethod ({ cls := "SyncTree", name := "format", desc := "(II)I" } : Jvm.MethodName)) ∈ lwg := tb_3 5 rfl rfl
theorem W_3_6 : (Jvm.Cond.selects "SyncTree" ({ cls := "SyncTree", name := "format", desc := "(II)I" } : Jvm.MethodName) ({ cls := "SyncTree", name := "format", desc := "(II)I" } : Jvm.MethodName)) ∈ lwg := tb_3 6 rfl rfl
theorem W_3_7 : (Jvm.Cond.code ({ cls := "SyncTree", name := "format", desc := "(II)I" } : Jvm.MethodName) prog_1_method_2_code (3 : Nat) (Option.some Jvm.ClassFile.FieldType.int)) ∈ lwg := tb_3 7 rfl rfl
theorem W_3_8 : (Jvm.Cond.methodLink "SyncTreeLaw" (107 : Nat) ({ cls := "SyncTree", name := "feed", desc := "(IIIII)I" } : Jvm.MethodName)) ∈ lwg := tb_3 8 rfl rfl
theorem W_3_9 : (Jvm.Cond.instanceMethod ({ cls := "SyncTree", name := "feed", desc := "(IIIII)I" } : Jvm.MethodName)) ∈ lwg := tb_3 9 rfl rfl
theorem W_3_10 : (Jvm.Cond.selects "SyncTree" ({ cls := "SyncTree", name := "feed", desc := "(IIIII)I" } : Jvm.MethodName) ({ cls := "SyncTree", name := "feed", desc := "(IIIII)I" } : Jvm.MethodName)) ∈ lwg := tb_3 10 rfl rfl
theorem W_3_11 : (Jvm.Cond.code ({ cls := "SyncTree", name := "feed", desc := "(IIIII)I" } : Jvm.MethodName) prog_1_method_4_code (6 : Nat) (Option.some Jvm.ClassFile.FieldType.int)) ∈ lwg := tb_3 11 rfl rfl
theorem W_3_12 : (Jvm.Cond.methodLink "SyncTree" (108 : Nat) ({ cls := "SyncTree$Tape", name := "hasSpace", desc := "()Z" } : Jvm.MethodName)) ∈ lwg := tb_3 12 rfl rfl
theorem W_3_13 : (Jvm.Cond.instanceMethod ({ cls := "SyncTree$Tape", name := "hasSpace", desc := "()Z" } : Jvm.MethodName)) ∈ lwg := tb_3 13 rfl rfl
theorem W_3_14 : (Jvm.Cond.selects "SyncTree$Tape" ({ cls := "SyncTree$Tape", name := "hasSpace", desc := "()Z" } : Jvm.MethodName) ({ cls := "SyncTree$Tape", name := "hasSpace", desc := "()Z" } : Jvm.MethodName)) ∈ lwg := tb_3 14 rfl rfl
theorem W_3_15 : (Jvm.Cond.code ({ cls := "SyncTree$Tape", name := "hasSpace", desc := "()Z" } : Jvm.MethodName) prog_8_method_2_code (1 : Nat) (Option.some Jvm.ClassFile.FieldType.boolean)) ∈ lwg := tb_3 15 rfl rfl
theorem W_3_16 : (Jvm.Cond.methodLink "SyncTree" (112 : Nat) ({ cls := "SyncTree$Tape", name := "append", desc := "(I)V" } : Jvm.MethodName)) ∈ lwg := tb_3 16 rfl rfl
theorem W_3_17 : (Jvm.Cond.instanceMethod ({ cls := "SyncTree$Tape", name := "append", desc := "(I)V" } : Jvm.MethodName)) ∈ lwg := tb_3 17 rfl rfl
theorem W_3_18 : (Jvm.Cond.selects "SyncTree$Tape" ({ cls := "SyncTree$Tape", name := "append", desc := "(I)V" } : Jvm.MethodName) ({ cls := "SyncTree$Tape", name := "append", desc := "(I)V" } : Jvm.MethodName)) ∈ lwg := tb_3 18 rfl rfl
theorem W_3_19 : (Jvm.Cond.code ({ cls := "SyncTree$Tape", name := "append", desc := "(I)V" } : Jvm.MethodName) prog_8_method_3_code (3 : Nat) (Option.none : Option Jvm.ClassFile.FieldType)) ∈ lwg := tb_3 19 rfl rfl
theorem W_3_20 : (Jvm.Cond.methodLink "SyncTreeLaw" (112 : Nat) ({ cls := "SyncTree", name := "path", desc := "(II)I" } : Jvm.MethodName)) ∈ lwg := tb_3 20 rfl rfl
theorem W_3_21 : (Jvm.Cond.instanceMethod ({ cls := "SyncTree", name := "path", desc := "(II)I" } : Jvm.MethodName)) ∈ lwg := tb_3 21 rfl rfl
theorem W_3_22 : (Jvm.Cond.selects "SyncTree" ({ cls := "SyncTree", name := "path", desc := "(II)I" } : Jvm.MethodName) ({ cls := "SyncTree", name := "path", desc := "(II)I" } : Jvm.MethodName)) ∈ lwg := tb_3 22 rfl rfl
theorem W_3_23 : (Jvm.Cond.code ({ cls := "SyncTree", name := "path", desc := "(II)I" } : Jvm.MethodName) prog_1_method_5_code (4 : Nat) (Option.some Jvm.ClassFile.FieldType.int)) ∈ lwg := tb_3 23 rfl rfl
theorem W_3_24 : (Jvm.Cond.methodLink "SyncTree" (119 : Nat) ({ cls := "SyncTree$Tape", name := "canBePath", desc := "(I)Z" } : Jvm.MethodName)) ∈ lwg := tb_3 24 rfl rfl
theorem W_3_25 : (Jvm.Cond.instanceMethod ({ cls := "SyncTree$Tape", name := "canBePath", desc := "(I)Z" } : Jvm.MethodName)) ∈ lwg := tb_3 25 rfl rfl
theorem W_3_26 : (Jvm.Cond.selects "SyncTree$Tape" ({ cls := "SyncTree$Tape", name := "canBePath", desc := "(I)Z" } : Jvm.MethodName) ({ cls := "SyncTree$Tape", name := "canBePath", desc := "(I)Z" } : Jvm.MethodName)) ∈ lwg := tb_3 26 rfl rfl
theorem W_3_27 : (Jvm.Cond.code ({ cls := "SyncTree$Tape", name := "canBePath", desc := "(I)Z" } : Jvm.MethodName) prog_8_method_6_code (3 : Nat) (Option.some Jvm.ClassFile.FieldType.boolean)) ∈ lwg := tb_3 27 rfl rfl
theorem W_3_28 : (Jvm.Cond.methodLink "SyncTree" (123 : Nat) ({ cls := "SyncTree$PathText", name := "take", desc := "(LSyncTree$Tape;I)V" } : Jvm.MethodName)) ∈ lwg := tb_3 28 rfl rfl
theorem W_3_29 : (Jvm.Cond.instanceMethod ({ cls := "SyncTree$PathText", name := "take", desc := "(LSyncTree$Tape;I)V" } : Jvm.MethodName)) ∈ lwg := tb_3 29 rfl rfl
theorem W_3_30 : (Jvm.Cond.selects "SyncTree$PathText" ({ cls := "SyncTree$PathText", name := "take", desc := "(LSyncTree$Tape;I)V" } : Jvm.MethodName) ({ cls := "SyncTree$PathText", name := "take", desc := "(LSyncTree$Tape;I)V" } : Jvm.MethodName)) ∈ lwg := tb_3 30 rfl rfl
theorem W_3_31 : (Jvm.Cond.code ({ cls := "SyncTree$PathText", name := "take", desc := "(LSyncTree$Tape;I)V" } : Jvm.MethodName) prog_5_method_3_code (4 : Nat) (Option.none : Option Jvm.ClassFile.FieldType)) ∈ lwg := tb_3 31 rfl rfl
theorem W_3_32 : (Jvm.Cond.methodLink "SyncTree$PathText" (25 : Nat) ({ cls := "java/lang/Math", name := "min", desc := "(II)I" } : Jvm.MethodName)) ∈ lwg := tb_3 32 rfl rfl
theorem W_3_33 : (Jvm.Cond.methodLink "SyncTree$PathText" (31 : Nat) ({ cls := "java/lang/Math", name := "max", desc := "(II)I" } : Jvm.MethodName)) ∈ lwg := tb_3 33 rfl rfl
theorem W_3_34 : (Jvm.Cond.methodLink "SyncTree$PathText" (34 : Nat) ({ cls := "SyncTree$Tape", name := "octet", desc := "(I)B" } : Jvm.MethodName)) ∈ lwg := tb_3 34 rfl rfl
theorem W_3_35 : (Jvm.Cond.instanceMethod ({ cls := "SyncTree$Tape", name := "octet", desc := "(I)B" } : Jvm.MethodName)) ∈ lwg := tb_3 35 rfl rfl
theorem W_3_36 : (Jvm.Cond.selects "SyncTree$Tape" ({ cls := "SyncTree$Tape", name := "octet", desc := "(I)B" } : Jvm.MethodName) ({ cls := "SyncTree$Tape", name := "octet", desc := "(I)B" } : Jvm.MethodName)) ∈ lwg := tb_3 36 rfl rfl
theorem W_3_37 : (Jvm.Cond.code ({ cls := "SyncTree$Tape", name := "octet", desc := "(I)B" } : Jvm.MethodName) prog_8_method_5_code (2 : Nat) (Option.some Jvm.ClassFile.FieldType.byte)) ∈ lwg := tb_3 37 rfl rfl
theorem W_3_38 : (Jvm.Cond.methodLink "SyncTreeLaw" (202 : Nat) ({ cls := "SyncTree", name := "cut", desc := "(I)I" } : Jvm.MethodName)) ∈ lwg := tb_3 38 rfl rfl
theorem W_3_39 : (Jvm.Cond.instanceMethod ({ cls := "SyncTree", name := "cut", desc := "(I)I" } : Jvm.MethodName)) ∈ lwg := tb_3 39 rfl rfl
theorem W_3_40 : (Jvm.Cond.selects "SyncTree" ({ cls := "SyncTree", name := "cut", desc := "(I)I" } : Jvm.MethodName) ({ cls := "SyncTree", name := "cut", desc := "(I)I" } : Jvm.MethodName)) ∈ lwg := tb_3 40 rfl rfl
theorem W_3_41 : (Jvm.Cond.code ({ cls := "SyncTree", name := "cut", desc := "(I)I" } : Jvm.MethodName) prog_1_method_41_code (2 : Nat) (Option.some Jvm.ClassFile.FieldType.int)) ∈ lwg := tb_3 41 rfl rfl
theorem W_3_42 : (Jvm.Cond.methodLink "SyncTreeLaw" (209 : Nat) ({ cls := "SyncTree", name := "choose", desc := "(II)I" } : Jvm.MethodName)) ∈ lwg := tb_3 42 rfl rfl
theorem W_3_43 : (Jvm.Cond.instanceMethod ({ cls := "SyncTree", name := "choose", desc := "(II)I" } : Jvm.MethodName)) ∈ lwg := tb_3 43 rfl rfl
theorem W_3_44 : (Jvm.Cond.selects "SyncTree" ({ cls := "SyncTree", name := "choose", desc := "(II)I" } : Jvm.MethodName) ({ cls := "SyncTree", name := "choose", desc := "(II)I" } : Jvm.MethodName)) ∈ lwg := tb_3 44 rfl rfl
theorem W_3_45 : (Jvm.Cond.code ({ cls := "SyncTree", name := "choose", desc := "(II)I" } : Jvm.MethodName) prog_1_method_43_code (3 : Nat) (Option.some Jvm.ClassFile.FieldType.int)) ∈ lwg := tb_3 45 rfl rfl
theorem W_3_46 : (Jvm.Cond.methodLink "SyncTree" (356 : Nat) ({ cls := "SyncTree$Disk", name := "countOf", desc := "(I)I" } : Jvm.MethodName)) ∈ lwg := tb_3 46 rfl rfl
theorem W_3_47 : (Jvm.Cond.instanceMethod ({ cls := "SyncTree$Disk", name := "countOf", desc := "(I)I" } : Jvm.MethodName)) ∈ lwg := tb_3 47 rfl rfl
theorem W_3_48 : (Jvm.Cond.selects "SyncTree$Disk" ({ cls := "SyncTree$Disk", name := "countOf", desc := "(I)I" } : Jvm.MethodName) ({ cls := "SyncTree$Disk", name := "countOf", desc := "(I)I" } : Jvm.MethodName)) ∈ lwg := tb_3 48 rfl rfl
theorem W_3_49 : (Jvm.Cond.code ({ cls := "SyncTree$Disk", name := "countOf", desc := "(I)I" } : Jvm.MethodName) prog_2_method_12_code (2 : Nat) (Option.some Jvm.ClassFile.FieldType.int)) ∈ lwg := tb_3 49 rfl rfl
theorem W_3_50 : (Jvm.Cond.methodLink "SyncTree" (359 : Nat) ({ cls := "SyncTree$Disk", name := "setChoice", desc := "(II)V" } : Jvm.MethodName)) ∈ lwg := tb_3 50 rfl rfl
theorem W_3_51 : (Jvm.Cond.instanceMethod ({ cls := "SyncTree$Disk", name := "setChoice", desc := "(II)V" } : Jvm.MethodName)) ∈ lwg := tb_3 51 rfl rfl
theorem W_3_52 : (Jvm.Cond.selects "SyncTree$Disk" ({ cls := "SyncTree$Disk", name := "setChoice", desc := "(II)V" } : Jvm.MethodName) ({ cls := "SyncTree$Disk", name := "setChoice", desc := "(II)V" } : Jvm.MethodName)) ∈ lwg := tb_3 52 rfl rfl
theorem W_3_53 : (Jvm.Cond.code ({ cls := "SyncTree$Disk", name := "setChoice", desc := "(II)V" } : Jvm.MethodName) prog_2_method_13_code (3 : Nat) (Option.none : Option Jvm.ClassFile.FieldType)) ∈ lwg := tb_3 53 rfl rfl
theorem W_3_54 : (Jvm.Cond.methodLink "SyncTreeLaw" (215 : Nat) ({ cls := "SyncTree", name := "shuffle", desc := "(J)I" } : Jvm.MethodName)) ∈ lwg := tb_3 54 rfl rfl
theorem W_3_55 : (Jvm.Cond.instanceMethod ({ cls := "SyncTree", name := "shuffle", desc := "(J)I" } : Jvm.MethodName)) ∈ lwg := tb_3 55 rfl rfl
theorem W_3_56 : (Jvm.Cond.selects "SyncTree" ({ cls := "SyncTree", name := "shuffle", desc := "(J)I" } : Jvm.MethodName) ({ cls := "SyncTree", name := "shuffle", desc := "(J)I" } : Jvm.MethodName)) ∈ lwg := tb_3 56 rfl rfl
theorem W_3_57 : (Jvm.Cond.code ({ cls := "SyncTree", name := "shuffle", desc := "(J)I" } : Jvm.MethodName) prog_1_method_44_code (3 : Nat) (Option.some Jvm.ClassFile.FieldType.int)) ∈ lwg := tb_3 57 rfl rfl
theorem W_3_58 : (Jvm.Cond.methodLink "SyncTree" (362 : Nat) ({ cls := "SyncTree$Disk", name := "chooseAll", desc := "(J)I" } : Jvm.MethodName)) ∈ lwg := tb_3 58 rfl rfl
theorem W_3_59 : (Jvm.Cond.instanceMethod ({ cls := "SyncTree$Disk", name := "chooseAll", desc := "(J)I" } : Jvm.MethodName)) ∈ lwg := tb_3 59 rfl rfl
theorem W_3_60 : (Jvm.Cond.selects "SyncTree$Disk" ({ cls := "SyncTree$Disk", name := "chooseAll", desc := "(J)I" } : Jvm.MethodName) ({ cls := "SyncTree$Disk", name := "chooseAll", desc := "(J)I" } : Jvm.MethodName)) ∈ lwg := tb_3 60 rfl rfl
theorem W_3_61 : (Jvm.Cond.code ({ cls := "SyncTree$Disk", name := "chooseAll", desc := "(J)I" } : Jvm.MethodName) prog_2_method_14_code (6 : Nat) (Option.some Jvm.ClassFile.FieldType.int)) ∈ lwg := tb_3 61 rfl rfl
theorem W_3_62 : (Jvm.Cond.constantLong "SyncTree$Disk" (105 : Nat) (1023 : Int64)) ∈ lwg := tb_3 62 rfl rfl
theorem W_3_63 : (Jvm.Cond.methodLink "SyncTreeLaw" (223 : Nat) ({ cls := "SyncTree", name := "versions", desc := "(I)I" } : Jvm.MethodName)) ∈ lwg := tb_3 63 rfl rfl
theorem W_3_64 : (Jvm.Cond.instanceMethod ({ cls := "SyncTree", name := "versions", desc := "(I)I" } : Jvm.MethodName)) ∈ lwg := tb_3 64 rfl rfl
theorem W_3_65 : (Jvm.Cond.selects "SyncTree" ({ cls := "SyncTree", name := "versions", desc := "(I)I" } : Jvm.MethodName) ({ cls := "SyncTree", name := "versions", desc := "(I)I" } : Jvm.MethodName)) ∈ lwg := tb_3 65 rfl rfl
theorem W_3_66 : (Jvm.Cond.code ({ cls := "SyncTree", name := "versions", desc := "(I)I" } : Jvm.MethodName) prog_1_method_46_code (3 : Nat) (Option.some Jvm.ClassFile.FieldType.int)) ∈ lwg := tb_3 66 rfl rfl
theorem W_3_67 : (Jvm.Cond.methodLink "SyncTreeLaw" (227 : Nat) ({ cls := "SyncTree", name := "total", desc := "(I)I" } : Jvm.MethodName)) ∈ lwg := tb_3 67 rfl rfl
theorem W_3_68 : (Jvm.Cond.instanceMethod ({ cls := "SyncTree", name := "total", desc := "(I)I" } : Jvm.MethodName)) ∈ lwg := tb_3 68 rfl rfl
theorem W_3_69 : (Jvm.Cond.selects "SyncTree" ({ cls := "SyncTree", name := "total", desc := "(I)I" } : Jvm.MethodName) ({ cls := "SyncTree", name := "total", desc := "(I)I" } : Jvm.MethodName)) ∈ lwg := tb_3 69 rfl rfl
theorem W_3_70 : (Jvm.Cond.code ({ cls := "SyncTree", name := "total", desc := "(I)I" } : Jvm.MethodName) prog_1_method_47_code (2 : Nat) (Option.some Jvm.ClassFile.FieldType.int)) ∈ lwg := tb_3 70 rfl rfl
theorem W_3_71 : (Jvm.Cond.methodLink "SyncTree" (374 : Nat) ({ cls := "SyncTree$Disk", name := "figure", desc := "(I)I" } : Jvm.MethodName)) ∈ lwg := tb_3 71 rfl rfl
theorem W_3_72 : (Jvm.Cond.instanceMethod ({ cls := "SyncTree$Disk", name := "figure", desc := "(I)I" } : Jvm.MethodName)) ∈ lwg := tb_3 72 rfl rfl
theorem W_3_73 : (Jvm.Cond.selects "SyncTree$Disk" ({ cls := "SyncTree$Disk", name := "figure", desc := "(I)I" } : Jvm.MethodName) ({ cls := "SyncTree$Disk", name := "figure", desc := "(I)I" } : Jvm.MethodName)) ∈ lwg := tb_3 73 rfl rfl
theorem W_3_74 : (Jvm.Cond.code ({ cls := "SyncTree$Disk", name := "figure", desc := "(I)I" } : Jvm.MethodName) prog_2_method_17_code (2 : Nat) (Option.some Jvm.ClassFile.FieldType.int)) ∈ lwg := tb_3 74 rfl rfl
theorem W_3_75 : (Jvm.Cond.methodLink "SyncTree" (377 : Nat) ({ cls := "SyncTree$Tree", name := "countUnused", desc := "()I" } : Jvm.MethodName)) ∈ lwg := tb_3 75 rfl rfl
theorem W_3_76 : (Jvm.Cond.instanceMethod ({ cls := "SyncTree$Tree", name := "countUnused", desc := "()I" } : Jvm.MethodName)) ∈ lwg := tb_3 76 rfl rfl
theorem W_3_77 : (Jvm.Cond.selects "SyncTree$Tree" ({ cls := "SyncTree$Tree", name := "countUnused", desc := "()I" } : Jvm.MethodName) ({ cls := "SyncTree$Tree", name := "countUnused", desc := "()I" } : Jvm.MethodName)) ∈ lwg := tb_3 77 rfl rfl
theorem W_3_78 : (Jvm.Cond.code ({ cls := "SyncTree$Tree", name := "countUnused", desc := "()I" } : Jvm.MethodName) prog_10_method_18_code (3 : Nat) (Option.some Jvm.ClassFile.FieldType.int)) ∈ lwg := tb_3 78 rfl rfl
theorem W_3_79 : (Jvm.Cond.methodLink "SyncTree$Tree" (40 : Nat) ({ cls := "SyncTree$Tree", name := "kind", desc := "(I)I" } : Jvm.MethodName)) ∈ lwg := tb_3 79 rfl rfl
theorem W_3_80 : (Jvm.Cond.instanceMethod ({ cls := "SyncTree$Tree", name := "kind", desc := "(I)I" } : Jvm.MethodName)) ∈ lwg := tb_3 80 rfl rfl
theorem W_3_81 : (Jvm.Cond.selects "SyncTree$Tree" ({ cls := "SyncTree$Tree", name := "kind", desc := "(I)I" } : Jvm.MethodName) ({ cls := "SyncTree$Tree", name := "kind", desc := "(I)I" } : Jvm.MethodName)) ∈ lwg := tb_3 81 rfl rfl
theorem W_3_82 : (Jvm.Cond.code ({ cls := "SyncTree$Tree", name := "kind", desc := "(I)I" } : Jvm.MethodName) prog_10_method_6_code (2 : Nat) (Option.some Jvm.ClassFile.FieldType.int)) ∈ lwg := tb_3 82 rfl rfl
theorem W_3_83 : (Jvm.Cond.methodLink "SyncTree$Tree" (30 : Nat) ({ cls := "SyncTree$Tree", name := "nodeWord", desc := "(II)J" } : Jvm.MethodName)) ∈ lwg := tb_3 83 rfl rfl
theorem W_3_84 : (Jvm.Cond.instanceMethod ({ cls := "SyncTree$Tree", name := "nodeWord", desc := "(II)J" } : Jvm.MethodName)) ∈ lwg := tb_3 84 rfl rfl
theorem W_3_85 : (Jvm.Cond.selects "SyncTree$Tree" ({ cls := "SyncTree$Tree", name := "nodeWord", desc := "(II)J" } : Jvm.MethodName) ({ cls := "SyncTree$Tree", name := "nodeWord", desc := "(II)J" } : Jvm.MethodName)) ∈ lwg := tb_3 85 rfl rfl
theorem W_3_86 : (Jvm.Cond.code ({ cls := "SyncTree$Tree", name := "nodeWord", desc := "(II)J" } : Jvm.MethodName) prog_10_method_4_code (3 : Nat) (Option.some Jvm.ClassFile.FieldType.long)) ∈ lwg := tb_3 86 rfl rfl
theorem W_3_87 : (Jvm.Cond.constantLong "SyncTree$Tree" (34 : Nat) (255 : Int64)) ∈ lwg := tb_3 87 rfl rfl
theorem W_3_88 : (Jvm.Cond.methodLink "SyncTree" (380 : Nat) ({ cls := "SyncTree$Space", name := "figure", desc := "(I)I" } : Jvm.MethodName)) ∈ lwg := tb_3 88 rfl rfl
theorem W_3_89 : (Jvm.Cond.instanceMethod ({ cls := "SyncTree$Space", name := "figure", desc := "(I)I" } : Jvm.MethodName)) ∈ lwg := tb_3 89 rfl rfl
theorem W_3_90 : (Jvm.Cond.selects "SyncTree$Space" ({ cls := "SyncTree$Space", name := "figure", desc := "(I)I" } : Jvm.MethodName) ({ cls := "SyncTree$Space", name := "figure", desc := "(I)I" } : Jvm.MethodName)) ∈ lwg := tb_3 90 rfl rfl
theorem W_3_91 : (Jvm.Cond.code ({ cls := "SyncTree$Space", name := "figure", desc := "(I)I" } : Jvm.MethodName) prog_7_method_30_code (2 : Nat) (Option.some Jvm.ClassFile.FieldType.int)) ∈ lwg := tb_3 91 rfl rfl
theorem W_3_92 : (Jvm.Cond.methodLink "SyncTree$Space" (132 : Nat) ({ cls := "SyncTree$Space", name := "groupSize", desc := "()I" } : Jvm.MethodName)) ∈ lwg := tb_3 92 rfl rfl
theorem W_3_93 : (Jvm.Cond.instanceMethod ({ cls := "SyncTree$Space", name := "groupSize", desc := "()I" } : Jvm.MethodName)) ∈ lwg := tb_3 93 rfl rfl
theorem W_3_94 : (Jvm.Cond.selects "SyncTree$Space" ({ cls := "SyncTree$Space", name := "groupSize", desc := "()I" } : Jvm.MethodName) ({ cls := "SyncTree$Space", name := "groupSize", desc := "()I" } : Jvm.MethodName)) ∈ lwg := tb_3 94 rfl rfl
theorem W_3_95 : (Jvm.Cond.code ({ cls := "SyncTree$Space", name := "groupSize", desc := "()I" } : Jvm.MethodName) prog_7_method_29_code (1 : Nat) (Option.some Jvm.ClassFile.FieldType.int)) ∈ lwg := tb_3 95 rfl rfl
theorem W_3_96 : (Jvm.Cond.methodLink "SyncTree" (381 : Nat) ({ cls := "SyncTree$Journal", name := "figure", desc := "(I)I" } : Jvm.MethodName)) ∈ lwg := tb_3 96 rfl rfl
theorem W_3_97 : (Jvm.Cond.instanceMethod ({ cls := "SyncTree$Journal", name := "figure", desc := "(I)I" } : Jvm.MethodName)) ∈ lwg := tb_3 97 rfl rfl
theorem W_3_98 : (Jvm.Cond.selects "SyncTree$Journal" ({ cls := "SyncTree$Journal", name := "figure", desc := "(I)I" } : Jvm.MethodName) ({ cls := "SyncTree$Journal", name := "figure", desc := "(I)I" } : Jvm.MethodName)) ∈ lwg := tb_3 98 rfl rfl
theorem W_3_99 : (Jvm.Cond.code ({ cls := "SyncTree$Journal", name := "figure", desc := "(I)I" } : Jvm.MethodName) prog_3_method_25_code (2 : Nat) (Option.some Jvm.ClassFile.FieldType.int)) ∈ lwg := tb_3 99 rfl rfl
theorem W_3_100 : (Jvm.Cond.methodLink "SyncTreeLaw" (116 : Nat) ({ cls := "SyncTreeLaw", name := "create", desc := "(LSyncTree;[J)I" } : Jvm.MethodName)) ∈ lwg := tb_3 100 rfl rfl
theorem W_3_101 : (Jvm.Cond.static ({ cls := "SyncTreeLaw", name := "create", desc := "(LSyncTree;[J)I" } : Jvm.MethodName)) ∈ lwg := tb_3 101 rfl rfl
theorem W_3_102 : (Jvm.Cond.codeWith ({ cls := "SyncTreeLaw", name := "create", desc := "(LSyncTree;[J)I" } : Jvm.MethodName) method_3_code (3 : Nat) (Option.some Jvm.ClassFile.FieldType.int) [((0 : Nat), (8 : Nat), (11 : Nat), (13 : Nat))]) ∈ lwg := tb_3 102 rfl rfl
theorem W_3_103 : (Jvm.Cond.classLink "SyncTreeLaw" (13 : Nat) "java/lang/IllegalStateException") ∈ lwg := tb_3 103 rfl rfl
theorem W_3_104 : (Jvm.Cond.methodLink "SyncTreeLaw" (7 : Nat) ({ cls := "SyncTree", name := "create", desc := "()I" } : Jvm.MethodName)) ∈ lwg := tb_3 104 rfl rfl
theorem W_3_105 : (Jvm.Cond.instanceMethod ({ cls := "SyncTree", name := "create", desc := "()I" } : Jvm.MethodName)) ∈ lwg := tb_3 105 rfl rfl
theorem W_3_106 : (Jvm.Cond.selects "SyncTree" ({ cls := "SyncTree", name := "create", desc := "()I" } : Jvm.MethodName) ({ cls := "SyncTree", name := "create", desc := "()I" } : Jvm.MethodName)) ∈ lwg := tb_3 106 rfl rfl
theorem W_3_107 : (Jvm.Cond.code ({ cls := "SyncTree", name := "create", desc := "()I" } : Jvm.MethodName) prog_1_method_6_code (1 : Nat) (Option.some Jvm.ClassFile.FieldType.int)) ∈ lwg := tb_3 107 rfl rfl
theorem W_3_108 : (Jvm.Cond.methodLink "SyncTree" (127 : Nat) ({ cls := "SyncTree$Journal", name := "postAhead", desc := "()V" } : Jvm.MethodName)) ∈ lwg := tb_3 108 rfl rfl
theorem W_3_109 : (Jvm.Cond.instanceMethod ({ cls := "SyncTree$Journal", name := "postAhead", desc := "()V" } : Jvm.MethodName)) ∈ lwg := tb_3 109 rfl rfl
theorem W_3_110 : (Jvm.Cond.selects "SyncTree$Journal" ({ cls := "SyncTree$Journal", name := "postAhead", desc := "()V" } : Jvm.MethodName) ({ cls := "SyncTree$Journal", name := "postAhead", desc := "()V" } : Jvm.MethodName)) ∈ lwg := tb_3 110 rfl rfl
theorem W_3_111 : (Jvm.Cond.code ({ cls := "SyncTree$Journal", name := "postAhead", desc := "()V" } : Jvm.MethodName) prog_3_method_10_code (1 : Nat) (Option.none : Option Jvm.ClassFile.FieldType)) ∈ lwg := tb_3 111 rfl rfl
theorem W_3_112 : (Jvm.Cond.methodLink "SyncTree$Journal" (107 : Nat) ({ cls := "SyncTree$Disk", name := "demandPower", desc := "()V" } : Jvm.MethodName)) ∈ lwg := tb_3 112 rfl rfl
theorem W_3_113 : (Jvm.Cond.instanceMethod ({ cls := "SyncTree$Disk", name := "demandPower", desc := "()V" } : Jvm.MethodName)) ∈ lwg := tb_3 113 rfl rfl
theorem W_3_114 : (Jvm.Cond.selects "SyncTree$Disk" ({ cls := "SyncTree$Disk", name := "demandPower", desc := "()V" } : Jvm.MethodName) ({ cls := "SyncTree$Disk", name := "demandPower", desc := "()V" } : Jvm.MethodName)) ∈ lwg := tb_3 114 rfl rfl
theorem W_3_115 : (Jvm.Cond.code ({ cls := "SyncTree$Disk", name := "demandPower", desc := "()V" } : Jvm.MethodName) prog_2_method_3_code (1 : Nat) (Option.none : Option Jvm.ClassFile.FieldType)) ∈ lwg := tb_3 115 rfl rfl
theorem W_3_116 : (Jvm.Cond.classLink "SyncTree$Disk" (72 : Nat) "java/lang/IllegalStateException") ∈ lwg := tb_3 116 rfl rfl
theorem W_3_117 : (Jvm.Cond.instantiable "java/lang/IllegalStateException" (6 : Nat)) ∈ lwg := tb_3 117 rfl rfl
theorem W_3_118 : (Jvm.Cond.castable "java/lang/IllegalStateException" "java/lang/IllegalStateException") ∈ lwg := tb_3 118 rfl rfl
theorem W_3_119 : (Jvm.Cond.declares ({ cls := "java/lang/RuntimeException", name := "<init>", desc := "()V" } : Jvm.MethodName)) ∈ lwg := tb_3 119 rfl rfl
theorem W_3_120 : (Jvm.Cond.declares ({ cls := "java/lang/RuntimeException", name := "<init>", desc := "(Ljava/lang/String;)V" } : Jvm.MethodName)) ∈ lwg := tb_3 120 rfl rfl
theorem W_3_121 : (Jvm.Cond.declares ({ cls := "java/lang/Exception", name := "<init>", desc := "()V" } : Jvm.MethodName)) ∈ lwg := tb_3 121 rfl rfl
theorem W_3_122 : (Jvm.Cond.declares ({ cls := "java/lang/Exception", name := "<init>", desc := "(Ljava/lang/String;)V" } : Jvm.MethodName)) ∈ lwg := tb_3 122 rfl rfl
theorem W_3_123 : (Jvm.Cond.declares ({ cls := "java/lang/Throwable", name := "<init>", desc := "()V" } : Jvm.MethodName)) ∈ lwg := tb_3 123 rfl rfl
theorem W_3_124 : (Jvm.Cond.declares ({ cls := "java/lang/Throwable", name := "<init>", desc := "(Ljava/lang/String;)V" } : Jvm.MethodName)) ∈ lwg := tb_3 124 rfl rfl
theorem W_3_125 : (Jvm.Cond.selects "java/lang/IllegalStateException" ({ cls := "java/lang/Throwable", name := "fillInStackTrace", desc := "(I)Ljava/lang/Throwable;" } : Jvm.MethodName) ({ cls := "java/lang/Throwable", name := "fillInStackTrace", desc := "(I)Ljava/lang/Throwable;" } : Jvm.MethodName)) ∈ lwg := tb_3 125 rfl rfl
theorem W_3_126 : (Jvm.Cond.selects "java/lang/IllegalStateException" ({ cls := "java/lang/Throwable", name := "fillInStackTrace", desc := "()Ljava/lang/Throwable;" } : Jvm.MethodName) ({ cls := "java/lang/Throwable", name := "fillInStackTrace", desc := "()Ljava/lang/Throwable;" } : Jvm.MethodName)) ∈ lwg := tb_3 126 rfl rfl
theorem W_3_127 : (Jvm.Cond.lays "java/lang/IllegalStateException" "java/lang/Throwable" "cause" "Ljava/lang/Throwable;") ∈ lwg := tb_3 127 rfl rfl
theorem W_3_128 : (Jvm.Cond.lays "java/lang/Throwable" "java/lang/Throwable" "cause" "Ljava/lang/Throwable;") ∈ lwg := tb_3 128 rfl rfl
theorem W_3_129 : (Jvm.Cond.lays "java/lang/IllegalStateException" "java/lang/Throwable" "stackTrace" "[Ljava/lang/StackTraceElement;") ∈ lwg := tb_3 129 rfl rfl
theorem W_3_130 : (Jvm.Cond.lays "java/lang/Throwable" "java/lang/Throwable" "stackTrace" "[Ljava/lang/StackTraceElement;") ∈ lwg := tb_3 130 rfl rfl
theorem W_3_131 : (Jvm.Cond.lays "java/lang/IllegalStateException" "java/lang/Throwable" "suppressedExceptions" "Ljava/util/List;") ∈ lwg := tb_3 131 rfl rfl
theorem W_3_132 : (Jvm.Cond.lays "java/lang/Throwable" "java/lang/Throwable" "suppressedExceptions" "Ljava/util/List;") ∈ lwg := tb_3 132 rfl rfl
theorem W_3_133 : (Jvm.Cond.lays "java/lang/IllegalStateException" "java/lang/Throwable" "detailMessage" "Ljava/lang/String;") ∈ lwg := tb_3 133 rfl rfl
theorem W_3_134 : (Jvm.Cond.lays "java/lang/Throwable" "java/lang/Throwable" "detailMessage" "Ljava/lang/String;") ∈ lwg := tb_3 134 rfl rfl
theorem W_3_135 : (Jvm.Cond.lays "java/lang/IllegalStateException" "java/lang/Throwable" "backtrace" "Ljava/lang/Object;") ∈ lwg := tb_3 135 rfl rfl
theorem W_3_136 : (Jvm.Cond.lays "java/lang/Throwable" "java/lang/Throwable" "backtrace" "Ljava/lang/Object;") ∈ lwg := tb_3 136 rfl rfl
theorem W_3_137 : (Jvm.Cond.fieldLink "java/lang/Throwable" (198 : Nat) "java/lang/Throwable" "backtrace" "Ljava/lang/Object;") ∈ lwg := tb_3 137 rfl rfl
theorem W_3_139 : (Jvm.Cond.instanceMethod ({ cls := "java/lang/Throwable", name := "<init>", desc := "()V" } : Jvm.MethodName)) ∈ lwg := tb_3 139 rfl rfl
theorem W_3_140 : (Jvm.Cond.code ({ cls := "java/lang/Throwable", name := "<init>", desc := "()V" } : Jvm.MethodName) prog_21_method_1_code (1 : Nat) (Option.none : Option Jvm.ClassFile.FieldType)) ∈ lwg := tb_3 140 rfl rfl
theorem W_3_141 : (Jvm.Cond.methodLink "java/lang/Throwable" (1 : Nat) ({ cls := "java/lang/Object", name := "<init>", desc := "()V" } : Jvm.MethodName)) ∈ lwg := tb_3 141 rfl rfl
theorem W_3_142 : (Jvm.Cond.fieldLink "java/lang/Throwable" (13 : Nat) "java/lang/Throwable" "UNASSIGNED_STACK" "[Ljava/lang/StackTraceElement;") ∈ lwg := tb_3 142 rfl rfl
theorem W_3_144 : (Jvm.Cond.fieldLink "java/lang/Throwable" (20 : Nat) "java/lang/Throwable" "SUPPRESSED_SENTINEL" "Ljava/util/List;") ∈ lwg := tb_3 144 rfl rfl
theorem W_3_146 : (Jvm.Cond.methodLink "java/lang/Throwable" (27 : Nat) ({ cls := "java/lang/Throwable", name := "fillInStackTrace", desc := "()Ljava/lang/Throwable;" } : Jvm.MethodName)) ∈ lwg := tb_3 146 rfl rfl
theorem W_3_147 : (Jvm.Cond.instanceMethod ({ cls := "java/lang/Throwable", name := "fillInStackTrace", desc := "()Ljava/lang/Throwable;" } : Jvm.MethodName)) ∈ lwg := tb_3 147 rfl rfl
theorem W_3_149 : (Jvm.Cond.selects "SyncTreeModel$Off" ({ cls := "java/lang/Throwable", name := "fillInStackTrace", desc := "()Ljava/lang/Throwable;" } : Jvm.MethodName) ({ cls := "java/lang/Throwable", name := "fillInStackTrace", desc := "()Ljava/lang/Throwable;" } : Jvm.MethodName)) ∈ lwg := tb_3 149 rfl rfl
theorem W_3_151 : (Jvm.Cond.methodLink "java/lang/Throwable" (202 : Nat) ({ cls := "java/lang/Throwable", name := "fillInStackTrace", desc := "(I)Ljava/lang/Throwable;" } : Jvm.MethodName)) ∈ lwg := tb_3 151 rfl rfl
theorem W_3_153 : (Jvm.Cond.instanceMethod ({ cls := "java/lang/Throwable", name := "fillInStackTrace", desc := "(I)Ljava/lang/Throwable;" } : Jvm.MethodName)) ∈ lwg := tb_3 153 rfl rfl
theorem W_3_154 : (Jvm.Cond.instantiable "java/lang/Throwable" (6 : Nat)) ∈ lwg := tb_3 154 rfl rfl
theorem W_3_155 : (Jvm.Cond.native ({ cls := "java/lang/Throwable", name := "fillInStackTrace", desc := "(I)Ljava/lang/Throwable;" } : Jvm.MethodName)) ∈ lwg := tb_3 155 rfl rfl
theorem W_3_157 : (Jvm.Cond.methodLink "SyncTree$Disk" (76 : Nat) ({ cls := "java/lang/IllegalStateException", name := "<init>", desc := "(Ljava/lang/String;)V" } : Jvm.MethodName)) ∈ lwg := tb_3 157 rfl rfl
theorem W_3_158 : (Jvm.Cond.instanceMethod ({ cls := "java/lang/IllegalStateException", name := "<init>", desc := "(Ljava/lang/String;)V" } : Jvm.MethodName)) ∈ lwg := tb_3 158 rfl rfl
theorem W_3_159 : (Jvm.Cond.code ({ cls := "java/lang/IllegalStateException", name := "<init>", desc := "(Ljava/lang/String;)V" } : Jvm.MethodName) prog_16_method_2_code (2 : Nat) (Option.none : Option Jvm.ClassFile.FieldType)) ∈ lwg := tb_3 159 rfl rfl
theorem W_3_160 : (Jvm.Cond.methodLink "java/lang/IllegalStateException" (7 : Nat) ({ cls := "java/lang/RuntimeException", name := "<init>", desc := "(Ljava/lang/String;)V" } : Jvm.MethodName)) ∈ lwg := tb_3 160 rfl rfl
theorem W_3_161 : (Jvm.Cond.instanceMethod ({ cls := "java/lang/RuntimeException", name := "<init>", desc := "(Ljava/lang/String;)V" } : Jvm.MethodName)) ∈ lwg := tb_3 161 rfl rfl
theorem W_3_162 : (Jvm.Cond.code ({ cls := "java/lang/RuntimeException", name := "<init>", desc := "(Ljava/lang/String;)V" } : Jvm.MethodName) prog_18_method_2_code (2 : Nat) (Option.none : Option Jvm.ClassFile.FieldType)) ∈ lwg := tb_3 162 rfl rfl
theorem W_3_163 : (Jvm.Cond.methodLink "java/lang/RuntimeException" (7 : Nat) ({ cls := "java/lang/Exception", name := "<init>", desc := "(Ljava/lang/String;)V" } : Jvm.MethodName)) ∈ lwg := tb_3 163 rfl rfl
theorem W_3_164 : (Jvm.Cond.instanceMethod ({ cls := "java/lang/Exception", name := "<init>", desc := "(Ljava/lang/String;)V" } : Jvm.MethodName)) ∈ lwg := tb_3 164 rfl rfl
theorem W_3_165 : (Jvm.Cond.code ({ cls := "java/lang/Exception", name := "<init>", desc := "(Ljava/lang/String;)V" } : Jvm.MethodName) prog_15_method_2_code (2 : Nat) (Option.none : Option Jvm.ClassFile.FieldType)) ∈ lwg := tb_3 165 rfl rfl
theorem W_3_166 : (Jvm.Cond.methodLink "java/lang/Exception" (7 : Nat) ({ cls := "java/lang/Throwable", name := "<init>", desc := "(Ljava/lang/String;)V" } : Jvm.MethodName)) ∈ lwg := tb_3 166 rfl rfl
theorem W_3_167 : (Jvm.Cond.instanceMethod ({ cls := "java/lang/Throwable", name := "<init>", desc := "(Ljava/lang/String;)V" } : Jvm.MethodName)) ∈ lwg := tb_3 167 rfl rfl
theorem W_3_168 : (Jvm.Cond.code ({ cls := "java/lang/Throwable", name := "<init>", desc := "(Ljava/lang/String;)V" } : Jvm.MethodName) prog_21_method_2_code (2 : Nat) (Option.none : Option Jvm.ClassFile.FieldType)) ∈ lwg := tb_3 168 rfl rfl
theorem W_3_169 : (Jvm.Cond.fieldLink "java/lang/Throwable" (198 : Nat) "java/lang/Throwable" "backtrace" "Ljava/lang/Object;") ∈ lwg := tb_3 169 rfl rfl
theorem W_3_170 : (Jvm.Cond.fieldLink "java/lang/Throwable" (31 : Nat) "java/lang/Throwable" "detailMessage" "Ljava/lang/String;") ∈ lwg := tb_3 170 rfl rfl
theorem W_3_171 : (Jvm.Cond.fieldLink "java/lang/Throwable" (7 : Nat) "java/lang/Throwable" "cause" "Ljava/lang/Throwable;") ∈ lwg := tb_3 171 rfl rfl
theorem W_3_172 : (Jvm.Cond.fieldLink "java/lang/Throwable" (17 : Nat) "java/lang/Throwable" "stackTrace" "[Ljava/lang/StackTraceElement;") ∈ lwg := tb_3 172 rfl rfl
theorem W_3_173 : (Jvm.Cond.fieldLink "java/lang/Throwable" (24 : Nat) "java/lang/Throwable" "suppressedExceptions" "Ljava/util/List;") ∈ lwg := tb_3 173 rfl rfl
theorem W_3_178 : (Jvm.Cond.lays "java/lang/IllegalStateException" "java/lang/Throwable" "depth" "I") ∈ lwg := tb_3 178 rfl rfl
theorem W_3_182 : (Jvm.Cond.methodLink "SyncTree$Journal" (112 : Nat) ({ cls := "SyncTree$Space", name := "groupSize", desc := "()I" } : Jvm.MethodName)) ∈ lwg := tb_3 182 rfl rfl
theorem W_3_183 : (Jvm.Cond.methodLink "SyncTree$Journal" (116 : Nat) ({ cls := "SyncTree$Journal", name := "postGroup", desc := "()I" } : Jvm.MethodName)) ∈ lwg := tb_3 183 rfl rfl
theorem W_3_184 : (Jvm.Cond.instanceMethod ({ cls := "SyncTree$Journal", name := "postGroup", desc := "()I" } : Jvm.MethodName)) ∈ lwg := tb_3 184 rfl rfl
theorem W_3_185 : (Jvm.Cond.selects "SyncTree$Journal" ({ cls := "SyncTree$Journal", name := "postGroup", desc := "()I" } : Jvm.MethodName) ({ cls := "SyncTree$Journal", name := "postGroup", desc := "()I" } : Jvm.MethodName)) ∈ lwg := tb_3 185 rfl rfl
theorem W_3_186 : (Jvm.Cond.code ({ cls := "SyncTree$Journal", name := "postGroup", desc := "()I" } : Jvm.MethodName) prog_3_method_11_code (3 : Nat) (Option.some Jvm.ClassFile.FieldType.int)) ∈ lwg := tb_3 186 rfl rfl
theorem W_3_187 : (Jvm.Cond.methodLink "SyncTree$Journal" (119 : Nat) ({ cls := "SyncTree$Journal", name := "checkpoint", desc := "()V" } : Jvm.MethodName)) ∈ lwg := tb_3 187 rfl rfl
theorem W_3_189 : (Jvm.Cond.instanceMethod ({ cls := "SyncTree$Journal", name := "checkpoint", desc := "()V" } : Jvm.MethodName)) ∈ lwg := tb_3 189 rfl rfl
theorem W_3_190 : (Jvm.Cond.code ({ cls := "SyncTree$Journal", name := "checkpoint", desc := "()V" } : Jvm.MethodName) prog_3_method_17_code (1 : Nat) (Option.none : Option Jvm.ClassFile.FieldType)) ∈ lwg := tb_3 190 rfl rfl
theorem W_3_191 : (Jvm.Cond.methodLink "SyncTree$Journal" (192 : Nat) ({ cls := "SyncTree$Journal", name := "flush", desc := "()V" } : Jvm.MethodName)) ∈ lwg := tb_3 191 rfl rfl
theorem W_3_192 : (Jvm.Cond.instanceMethod ({ cls := "SyncTree$Journal", name := "flush", desc := "()V" } : Jvm.MethodName)) ∈ lwg := tb_3 192 rfl rfl
theorem W_3_193 : (Jvm.Cond.selects "SyncTree$Journal" ({ cls := "SyncTree$Journal", name := "flush", desc := "()V" } : Jvm.MethodName) ({ cls := "SyncTree$Journal", name := "flush", desc := "()V" } : Jvm.MethodName)) ∈ lwg := tb_3 193 rfl rfl
theorem W_3_194 : (Jvm.Cond.code ({ cls := "SyncTree$Journal", name := "flush", desc := "()V" } : Jvm.MethodName) prog_3_method_14_code (1 : Nat) (Option.none : Option Jvm.ClassFile.FieldType)) ∈ lwg := tb_3 194 rfl rfl
theorem W_3_195 : (Jvm.Cond.methodLink "SyncTree$Journal" (174 : Nat) ({ cls := "SyncTree$Disk", name := "flushCache", desc := "()V" } : Jvm.MethodName)) ∈ lwg := tb_3 195 rfl rfl
theorem W_3_196 : (Jvm.Cond.instanceMethod ({ cls := "SyncTree$Disk", name := "flushCache", desc := "()V" } : Jvm.MethodName)) ∈ lwg := tb_3 196 rfl rfl
theorem W_3_197 : (Jvm.Cond.selects "SyncTree$Disk" ({ cls := "SyncTree$Disk", name := "flushCache", desc := "()V" } : Jvm.MethodName) ({ cls := "SyncTree$Disk", name := "flushCache", desc := "()V" } : Jvm.MethodName)) ∈ lwg := tb_3 197 rfl rfl
theorem W_3_198 : (Jvm.Cond.code ({ cls := "SyncTree$Disk", name := "flushCache", desc := "()V" } : Jvm.MethodName) prog_2_method_8_code (2 : Nat) (Option.none : Option Jvm.ClassFile.FieldType)) ∈ lwg := tb_3 198 rfl rfl
theorem W_3_199 : (Jvm.Cond.methodLink "SyncTree$Disk" (84 : Nat) ({ cls := "SyncTree$Disk", name := "act", desc := "()V" } : Jvm.MethodName)) ∈ lwg := tb_3 199 rfl rfl
theorem W_3_201 : (Jvm.Cond.instanceMethod ({ cls := "SyncTree$Disk", name := "act", desc := "()V" } : Jvm.MethodName)) ∈ lwg := tb_3 201 rfl rfl
theorem W_3_202 : (Jvm.Cond.code ({ cls := "SyncTree$Disk", name := "act", desc := "()V" } : Jvm.MethodName) prog_2_method_4_code (1 : Nat) (Option.none : Option Jvm.ClassFile.FieldType)) ∈ lwg := tb_3 202 rfl rfl
theorem W_3_203 : (Jvm.Cond.methodLink "SyncTree$Disk" (79 : Nat) ({ cls := "SyncTree$Disk", name := "losePower", desc := "()V" } : Jvm.MethodName)) ∈ lwg := tb_3 203 rfl rfl
theorem W_3_204 : (Jvm.Cond.instanceMethod ({ cls := "SyncTree$Disk", name := "losePower", desc := "()V" } : Jvm.MethodName)) ∈ lwg := tb_3 204 rfl rfl
theorem W_3_205 : (Jvm.Cond.selects "SyncTree$Disk" ({ cls := "SyncTree$Disk", name := "losePower", desc := "()V" } : Jvm.MethodName) ({ cls := "SyncTree$Disk", name := "losePower", desc := "()V" } : Jvm.MethodName)) ∈ lwg := tb_3 205 rfl rfl
theorem W_3_206 : (Jvm.Cond.code ({ cls := "SyncTree$Disk", name := "losePower", desc := "()V" } : Jvm.MethodName) prog_2_method_5_code (2 : Nat) (Option.none : Option Jvm.ClassFile.FieldType)) ∈ lwg := tb_3 206 rfl rfl
theorem W_3_208 : (Jvm.Cond.methodLink "SyncTree$Disk" (87 : Nat) ({ cls := "SyncTree$Disk", name := "keepOldest", desc := "()V" } : Jvm.MethodName)) ∈ lwg := tb_3 208 rfl rfl
theorem W_3_210 : (Jvm.Cond.instanceMethod ({ cls := "SyncTree$Disk", name := "keepOldest", desc := "()V" } : Jvm.MethodName)) ∈ lwg := tb_3 210 rfl rfl
theorem W_3_211 : (Jvm.Cond.code ({ cls := "SyncTree$Disk", name := "keepOldest", desc := "()V" } : Jvm.MethodName) prog_2_method_9_code (1 : Nat) (Option.none : Option Jvm.ClassFile.FieldType)) ∈ lwg := tb_3 211 rfl rfl
theorem W_3_212 : (Jvm.Cond.methodLink "SyncTree$Disk" (101 : Nat) ({ cls := "SyncTree$Disk", name := "keep", desc := "(I)V" } : Jvm.MethodName)) ∈ lwg := tb_3 212 rfl rfl
theorem W_3_214 : (Jvm.Cond.instanceMethod ({ cls := "SyncTree$Disk", name := "keep", desc := "(I)V" } : Jvm.MethodName)) ∈ lwg := tb_3 214 rfl rfl
theorem W_3_215 : (Jvm.Cond.code ({ cls := "SyncTree$Disk", name := "keep", desc := "(I)V" } : Jvm.MethodName) prog_2_method_10_code (4 : Nat) (Option.none : Option Jvm.ClassFile.FieldType)) ∈ lwg := tb_3 215 rfl rfl
theorem W_3_216 : (Jvm.Cond.methodLink "SyncTree$Journal" (177 : Nat) ({ cls := "SyncTree$Space", name := "freeRetired", desc := "(I)V" } : Jvm.MethodName)) ∈ lwg := tb_3 216 rfl rfl
theorem W_3_217 : (Jvm.Cond.instanceMethod ({ cls := "SyncTree$Space", name := "freeRetired", desc := "(I)V" } : Jvm.MethodName)) ∈ lwg := tb_3 217 rfl rfl
theorem W_3_218 : (Jvm.Cond.selects "SyncTree$Space" ({ cls := "SyncTree$Space", name := "freeRetired", desc := "(I)V" } : Jvm.MethodName) ({ cls := "SyncTree$Space", name := "freeRetired", desc := "(I)V" } : Jvm.MethodName)) ∈ lwg := tb_3 218 rfl rfl
theorem W_3_219 : (Jvm.Cond.code ({ cls := "SyncTree$Space", name := "freeRetired", desc := "(I)V" } : Jvm.MethodName) prog_7_method_28_code (3 : Nat) (Option.none : Option Jvm.ClassFile.FieldType)) ∈ lwg := tb_3 219 rfl rfl
theorem W_3_220 : (Jvm.Cond.methodLink "SyncTree$Journal" (180 : Nat) ({ cls := "SyncTree$Journal", name := "fold", desc := "(I)V" } : Jvm.MethodName)) ∈ lwg := tb_3 220 rfl rfl
theorem W_3_222 : (Jvm.Cond.instanceMethod ({ cls := "SyncTree$Journal", name := "fold", desc := "(I)V" } : Jvm.MethodName)) ∈ lwg := tb_3 222 rfl rfl
theorem W_3_223 : (Jvm.Cond.code ({ cls := "SyncTree$Journal", name := "fold", desc := "(I)V" } : Jvm.MethodName) prog_3_method_15_code (3 : Nat) (Option.none : Option Jvm.ClassFile.FieldType)) ∈ lwg := tb_3 223 rfl rfl
theorem W_3_224 : (Jvm.Cond.methodLink "SyncTree$Journal" (122 : Nat) ({ cls := "SyncTree$Journal", name := "wrap", desc := "(I)I" } : Jvm.MethodName)) ∈ lwg := tb_3 224 rfl rfl
theorem W_3_226 : (Jvm.Cond.instanceMethod ({ cls := "SyncTree$Journal", name := "wrap", desc := "(I)I" } : Jvm.MethodName)) ∈ lwg := tb_3 226 rfl rfl
theorem W_3_227 : (Jvm.Cond.code ({ cls := "SyncTree$Journal", name := "wrap", desc := "(I)I" } : Jvm.MethodName) prog_3_method_9_code (2 : Nat) (Option.some Jvm.ClassFile.FieldType.int)) ∈ lwg := tb_3 227 rfl rfl
theorem W_3_228 : (Jvm.Cond.methodLink "SyncTree$Journal" (126 : Nat) ({ cls := "SyncTree$Disk", name := "put", desc := "(II)V" } : Jvm.MethodName)) ∈ lwg := tb_3 228 rfl rfl
theorem W_3_229 : (Jvm.Cond.instanceMethod ({ cls := "SyncTree$Disk", name := "put", desc := "(II)V" } : Jvm.MethodName)) ∈ lwg := tb_3 229 rfl rfl
theorem W_3_230 : (Jvm.Cond.selects "SyncTree$Disk" ({ cls := "SyncTree$Disk", name := "put", desc := "(II)V" } : Jvm.MethodName) ({ cls := "SyncTree$Disk", name := "put", desc := "(II)V" } : Jvm.MethodName)) ∈ lwg := tb_3 230 rfl rfl
theorem W_3_231 : (Jvm.Cond.code ({ cls := "SyncTree$Disk", name := "put", desc := "(II)V" } : Jvm.MethodName) prog_2_method_6_code (4 : Nat) (Option.none : Option Jvm.ClassFile.FieldType)) ∈ lwg := tb_3 231 rfl rfl
theorem W_3_232 : (Jvm.Cond.constant "SyncTree$Journal" (195 : Nat) (1000000 : Int32)) ∈ lwg := tb_3 232 rfl rfl
theorem W_3_233 : (Jvm.Cond.methodLink "SyncTree$Journal" (196 : Nat) ({ cls := "SyncTree$Journal", name := "applySome", desc := "(I)I" } : Jvm.MethodName)) ∈ lwg := tb_3 233 rfl rfl
theorem W_3_234 : (Jvm.Cond.instanceMethod ({ cls := "SyncTree$Journal", name := "applySome", desc := "(I)I" } : Jvm.MethodName)) ∈ lwg := tb_3 234 rfl rfl
theorem W_3_235 : (Jvm.Cond.selects "SyncTree$Journal" ({ cls := "SyncTree$Journal", name := "applySome", desc := "(I)I" } : Jvm.MethodName) ({ cls := "SyncTree$Journal", name := "applySome", desc := "(I)I" } : Jvm.MethodName)) ∈ lwg := tb_3 235 rfl rfl
theorem W_3_236 : (Jvm.Cond.code ({ cls := "SyncTree$Journal", name := "applySome", desc := "(I)I" } : Jvm.MethodName) prog_3_method_18_code (5 : Nat) (Option.some Jvm.ClassFile.FieldType.int)) ∈ lwg := tb_3 236 rfl rfl
theorem W_3_237 : (Jvm.Cond.methodLink "SyncTree$Journal" (199 : Nat) ({ cls := "SyncTree$Journal", name := "isRevokedLater", desc := "(LSyncTree$Transaction;I)Z" } : Jvm.MethodName)) ∈ lwg := tb_3 237 rfl rfl
theorem W_3_239 : (Jvm.Cond.instanceMethod ({ cls := "SyncTree$Journal", name := "isRevokedLater", desc := "(LSyncTree$Transaction;I)Z" } : Jvm.MethodName)) ∈ lwg := tb_3 239 rfl rfl
theorem W_4_0 : (Jvm.Cond.code ({ cls := "SyncTree$Journal", name := "isRevokedLater", desc := "(LSyncTree$Transaction;I)Z" } : Jvm.MethodName) prog_3_method_19_code (4 : Nat) (Option.some Jvm.ClassFile.FieldType.boolean)) ∈ lwg := tb_4 0 rfl rfl
theorem W_4_1 : (Jvm.Cond.methodLink "SyncTree$Journal" (206 : Nat) ({ cls := "SyncTree$Transaction", name := "revokes", desc := "(I)Z" } : Jvm.MethodName)) ∈ lwg := tb_4 1 rfl rfl
theorem W_4_2 : (Jvm.Cond.instanceMethod ({ cls := "SyncTree$Transaction", name := "revokes", desc := "(I)Z" } : Jvm.MethodName)) ∈ lwg := tb_4 2 rfl rfl
theorem W_4_3 : (Jvm.Cond.selects "SyncTree$Transaction" ({ cls := "SyncTree$Transaction", name := "revokes", desc := "(I)Z" } : Jvm.MethodName) ({ cls := "SyncTree$Transaction", name := "revokes", desc := "(I)Z" } : Jvm.MethodName)) ∈ lwg := tb_4 3 rfl rfl
theorem W_4_4 : (Jvm.Cond.code ({ cls := "SyncTree$Transaction", name := "revokes", desc := "(I)Z" } : Jvm.MethodName) prog_9_method_2_code (3 : Nat) (Option.some Jvm.ClassFile.FieldType.boolean)) ∈ lwg := tb_4 4 rfl rfl
theorem W_4_5 : (Jvm.Cond.methodLink "SyncTree$Journal" (203 : Nat) ({ cls := "SyncTree$Space", name := "numberOf", desc := "(I)I" } : Jvm.MethodName)) ∈ lwg := tb_4 5 rfl rfl
theorem W_4_6 : (Jvm.Cond.instanceMethod ({ cls := "SyncTree$Space", name := "numberOf", desc := "(I)I" } : Jvm.MethodName)) ∈ lwg := tb_4 6 rfl rfl
theorem W_4_7 : (Jvm.Cond.selects "SyncTree$Space" ({ cls := "SyncTree$Space", name := "numberOf", desc := "(I)I" } : Jvm.MethodName) ({ cls := "SyncTree$Space", name := "numberOf", desc := "(I)I" } : Jvm.MethodName)) ∈ lwg := tb_4 7 rfl rfl
theorem W_4_8 : (Jvm.Cond.code ({ cls := "SyncTree$Space", name := "numberOf", desc := "(I)I" } : Jvm.MethodName) prog_7_method_6_code (2 : Nat) (Option.some Jvm.ClassFile.FieldType.int)) ∈ lwg := tb_4 8 rfl rfl
theorem W_4_9 : (Jvm.Cond.methodLink "SyncTree$Journal" (130 : Nat) ({ cls := "SyncTree$Journal", name := "append", desc := "(I)V" } : Jvm.MethodName)) ∈ lwg := tb_4 9 rfl rfl
theorem W_4_11 : (Jvm.Cond.instanceMethod ({ cls := "SyncTree$Journal", name := "append", desc := "(I)V" } : Jvm.MethodName)) ∈ lwg := tb_4 11 rfl rfl
theorem W_4_12 : (Jvm.Cond.code ({ cls := "SyncTree$Journal", name := "append", desc := "(I)V" } : Jvm.MethodName) prog_3_method_12_code (3 : Nat) (Option.none : Option Jvm.ClassFile.FieldType)) ∈ lwg := tb_4 12 rfl rfl
theorem W_4_13 : (Jvm.Cond.classLink "SyncTree$Journal" (133 : Nat) "SyncTree$Transaction") ∈ lwg := tb_4 13 rfl rfl
theorem W_4_14 : (Jvm.Cond.instantiable "SyncTree$Transaction" (8 : Nat)) ∈ lwg := tb_4 14 rfl rfl
theorem W_4_15 : (Jvm.Cond.methodLink "SyncTree$Journal" (141 : Nat) ({ cls := "SyncTree$Transaction", name := "<init>", desc := "(IIIIII)V" } : Jvm.MethodName)) ∈ lwg := tb_4 15 rfl rfl
theorem W_4_16 : (Jvm.Cond.instanceMethod ({ cls := "SyncTree$Transaction", name := "<init>", desc := "(IIIIII)V" } : Jvm.MethodName)) ∈ lwg := tb_4 16 rfl rfl
theorem W_4_17 : (Jvm.Cond.code ({ cls := "SyncTree$Transaction", name := "<init>", desc := "(IIIIII)V" } : Jvm.MethodName) prog_9_method_1_code (7 : Nat) (Option.none : Option Jvm.ClassFile.FieldType)) ∈ lwg := tb_4 17 rfl rfl
theorem W_4_18 : (Jvm.Cond.methodLink "SyncTree$Transaction" (1 : Nat) ({ cls := "java/lang/Object", name := "<init>", desc := "()V" } : Jvm.MethodName)) ∈ lwg := tb_4 18 rfl rfl
theorem W_4_19 : (Jvm.Cond.methodLink "SyncTree$Transaction" (22 : Nat) ({ cls := "java/lang/Math", name := "max", desc := "(II)I" } : Jvm.MethodName)) ∈ lwg := tb_4 19 rfl rfl
theorem W_4_20 : (Jvm.Cond.classLink "SyncTree$Transaction" (32 : Nat) "SyncTree$Row") ∈ lwg := tb_4 20 rfl rfl
theorem W_4_21 : (Jvm.Cond.fieldLink "SyncTree$Transaction" (7 : Nat) "SyncTree$Transaction" "number" "I") ∈ lwg := tb_4 21 rfl rfl
theorem W_4_22 : (Jvm.Cond.fieldLinkNest "SyncTree$Journal" (183 : Nat) "SyncTree$Transaction" "number" "I" "SyncTree") ∈ lwg := tb_4 22 rfl rfl
theorem W_4_23 : (Jvm.Cond.fieldLink "SyncTree$Transaction" (13 : Nat) "SyncTree$Transaction" "stamp" "I") ∈ lwg := tb_4 23 rfl rfl
theorem W_4_24 : (Jvm.Cond.fieldLinkNest "SyncTree$Journal" (225 : Nat) "SyncTree$Transaction" "stamp" "I" "SyncTree") ∈ lwg := tb_4 24 rfl rfl
theorem W_4_25 : (Jvm.Cond.fieldLink "SyncTree$Transaction" (16 : Nat) "SyncTree$Transaction" "start" "I") ∈ lwg := tb_4 25 rfl rfl
theorem W_4_26 : (Jvm.Cond.fieldLinkNest "SyncTree$Journal" (189 : Nat) "SyncTree$Transaction" "start" "I" "SyncTree") ∈ lwg := tb_4 26 rfl rfl
theorem W_4_27 : (Jvm.Cond.fieldLink "SyncTree$Transaction" (19 : Nat) "SyncTree$Transaction" "size" "I") ∈ lwg := tb_4 27 rfl rfl
theorem W_4_28 : (Jvm.Cond.fieldLinkNest "SyncTree$Journal" (186 : Nat) "SyncTree$Transaction" "size" "I" "SyncTree") ∈ lwg := tb_4 28 rfl rfl
theorem W_4_29 : (Jvm.Cond.fieldLink "SyncTree$Transaction" (28 : Nat) "SyncTree$Transaction" "touched" "[I") ∈ lwg := tb_4 29 rfl rfl
theorem W_4_30 : (Jvm.Cond.fieldLinkNest "SyncTree$Journal" (157 : Nat) "SyncTree$Transaction" "touched" "[I" "SyncTree") ∈ lwg := tb_4 30 rfl rfl
theorem W_4_31 : (Jvm.Cond.fieldLink "SyncTree$Transaction" (34 : Nat) "SyncTree$Transaction" "rows" "[LSyncTree$Row;") ∈ lwg := tb_4 31 rfl rfl
theorem W_4_32 : (Jvm.Cond.fieldLinkNest "SyncTree$Journal" (168 : Nat) "SyncTree$Transaction" "rows" "[LSyncTree$Row;" "SyncTree") ∈ lwg := tb_4 32 rfl rfl
theorem W_4_33 : (Jvm.Cond.fieldLink "SyncTree$Transaction" (38 : Nat) "SyncTree$Transaction" "revoked" "[I") ∈ lwg := tb_4 33 rfl rfl
theorem W_4_34 : (Jvm.Cond.fieldLinkNest "SyncTree$Journal" (161 : Nat) "SyncTree$Transaction" "revoked" "[I" "SyncTree") ∈ lwg := tb_4 34 rfl rfl
theorem W_4_35 : (Jvm.Cond.fieldLinkNest "SyncTree$Journal" (155 : Nat) "SyncTree$Transaction" "next" "LSyncTree$Transaction;" "SyncTree") ∈ lwg := tb_4 35 rfl rfl
theorem W_4_36 : (Jvm.Cond.laysFinal "SyncTree$Transaction" "SyncTree$Transaction" "number" "I") ∈ lwg := tb_4 36 rfl rfl
theorem W_4_38 : (Jvm.Cond.laysFinal "SyncTree$Transaction" "SyncTree$Transaction" "stamp" "I") ∈ lwg := tb_4 38 rfl rfl
theorem W_4_40 : (Jvm.Cond.laysFinal "SyncTree$Transaction" "SyncTree$Transaction" "start" "I") ∈ lwg := tb_4 40 rfl rfl
theorem W_4_42 : (Jvm.Cond.laysFinal "SyncTree$Transaction" "SyncTree$Transaction" "size" "I") ∈ lwg := tb_4 42 rfl rfl
theorem W_4_44 : (Jvm.Cond.laysFinal "SyncTree$Transaction" "SyncTree$Transaction" "touched" "[I") ∈ lwg := tb_4 44 rfl rfl
theorem W_4_46 : (Jvm.Cond.laysFinal "SyncTree$Transaction" "SyncTree$Transaction" "rows" "[LSyncTree$Row;") ∈ lwg := tb_4 46 rfl rfl
theorem W_4_48 : (Jvm.Cond.laysFinal "SyncTree$Transaction" "SyncTree$Transaction" "revoked" "[I") ∈ lwg := tb_4 48 rfl rfl
theorem W_4_50 : (Jvm.Cond.lays "SyncTree$Transaction" "SyncTree$Transaction" "next" "LSyncTree$Transaction;") ∈ lwg := tb_4 50 rfl rfl
theorem W_4_53 : (Jvm.Cond.methodLink "SyncTree$Journal" (144 : Nat) ({ cls := "SyncTree$Journal", name := "collect", desc := "(LSyncTree$Transaction;)V" } : Jvm.MethodName)) ∈ lwg := tb_4 53 rfl rfl
theorem W_4_55 : (Jvm.Cond.instanceMethod ({ cls := "SyncTree$Journal", name := "collect", desc := "(LSyncTree$Transaction;)V" } : Jvm.MethodName)) ∈ lwg := tb_4 55 rfl rfl
theorem W_4_56 : (Jvm.Cond.code ({ cls := "SyncTree$Journal", name := "collect", desc := "(LSyncTree$Transaction;)V" } : Jvm.MethodName) prog_3_method_13_code (6 : Nat) (Option.none : Option Jvm.ClassFile.FieldType)) ∈ lwg := tb_4 56 rfl rfl
theorem W_4_57 : (Jvm.Cond.methodLink "SyncTree$Journal" (164 : Nat) ({ cls := "SyncTree$Space", name := "isTouched", desc := "(I)Z" } : Jvm.MethodName)) ∈ lwg := tb_4 57 rfl rfl
theorem W_4_58 : (Jvm.Cond.instanceMethod ({ cls := "SyncTree$Space", name := "isTouched", desc := "(I)Z" } : Jvm.MethodName)) ∈ lwg := tb_4 58 rfl rfl
theorem W_4_59 : (Jvm.Cond.selects "SyncTree$Space" ({ cls := "SyncTree$Space", name := "isTouched", desc := "(I)Z" } : Jvm.MethodName) ({ cls := "SyncTree$Space", name := "isTouched", desc := "(I)Z" } : Jvm.MethodName)) ∈ lwg := tb_4 59 rfl rfl
theorem W_4_60 : (Jvm.Cond.code ({ cls := "SyncTree$Space", name := "isTouched", desc := "(I)Z" } : Jvm.MethodName) prog_7_method_9_code (2 : Nat) (Option.some Jvm.ClassFile.FieldType.boolean)) ∈ lwg := tb_4 60 rfl rfl
theorem W_4_61 : (Jvm.Cond.methodLink "SyncTree$Journal" (171 : Nat) ({ cls := "SyncTree$Space", name := "isRevoked", desc := "(I)Z" } : Jvm.MethodName)) ∈ lwg := tb_4 61 rfl rfl
theorem W_4_62 : (Jvm.Cond.instanceMethod ({ cls := "SyncTree$Space", name := "isRevoked", desc := "(I)Z" } : Jvm.MethodName)) ∈ lwg := tb_4 62 rfl rfl
theorem W_4_63 : (Jvm.Cond.selects "SyncTree$Space" ({ cls := "SyncTree$Space", name := "isRevoked", desc := "(I)Z" } : Jvm.MethodName) ({ cls := "SyncTree$Space", name := "isRevoked", desc := "(I)Z" } : Jvm.MethodName)) ∈ lwg := tb_4 63 rfl rfl
theorem W_4_64 : (Jvm.Cond.code ({ cls := "SyncTree$Space", name := "isRevoked", desc := "(I)Z" } : Jvm.MethodName) prog_7_method_10_code (2 : Nat) (Option.some Jvm.ClassFile.FieldType.boolean)) ∈ lwg := tb_4 64 rfl rfl
theorem W_4_65 : (Jvm.Cond.methodLink "SyncTree" (130 : Nat) ({ cls := "SyncTree", name := "placeForNew", desc := "()I" } : Jvm.MethodName)) ∈ lwg := tb_4 65 rfl rfl
theorem W_4_67 : (Jvm.Cond.instanceMethod ({ cls := "SyncTree", name := "placeForNew", desc := "()I" } : Jvm.MethodName)) ∈ lwg := tb_4 67 rfl rfl
theorem W_4_68 : (Jvm.Cond.code ({ cls := "SyncTree", name := "placeForNew", desc := "()I" } : Jvm.MethodName) prog_1_method_10_code (2 : Nat) (Option.some Jvm.ClassFile.FieldType.int)) ∈ lwg := tb_4 68 rfl rfl
theorem W_4_69 : (Jvm.Cond.methodLink "SyncTree" (153 : Nat) ({ cls := "SyncTree$Walker", name := "walkAhead", desc := "(LSyncTree$PathText;)I" } : Jvm.MethodName)) ∈ lwg := tb_4 69 rfl rfl
theorem W_4_70 : (Jvm.Cond.instanceMethod ({ cls := "SyncTree$Walker", name := "walkAhead", desc := "(LSyncTree$PathText;)I" } : Jvm.MethodName)) ∈ lwg := tb_4 70 rfl rfl
theorem W_4_71 : (Jvm.Cond.selects "SyncTree$Walker" ({ cls := "SyncTree$Walker", name := "walkAhead", desc := "(LSyncTree$PathText;)I" } : Jvm.MethodName) ({ cls := "SyncTree$Walker", name := "walkAhead", desc := "(LSyncTree$PathText;)I" } : Jvm.MethodName)) ∈ lwg := tb_4 71 rfl rfl
theorem W_4_72 : (Jvm.Cond.code ({ cls := "SyncTree$Walker", name := "walkAhead", desc := "(LSyncTree$PathText;)I" } : Jvm.MethodName) prog_11_method_3_code (3 : Nat) (Option.some Jvm.ClassFile.FieldType.int)) ∈ lwg := tb_4 72 rfl rfl
theorem W_4_73 : (Jvm.Cond.methodLink "SyncTree$Walker" (25 : Nat) ({ cls := "SyncTree$Walker", name := "walk", desc := "(LSyncTree$PathText;IZ)I" } : Jvm.MethodName)) ∈ lwg := tb_4 73 rfl rfl
theorem W_4_75 : (Jvm.Cond.instanceMethod ({ cls := "SyncTree$Walker", name := "walk", desc := "(LSyncTree$PathText;IZ)I" } : Jvm.MethodName)) ∈ lwg := tb_4 75 rfl rfl
theorem W_4_76 : (Jvm.Cond.code ({ cls := "SyncTree$Walker", name := "walk", desc := "(LSyncTree$PathText;IZ)I" } : Jvm.MethodName) prog_11_method_4_code (9 : Nat) (Option.some Jvm.ClassFile.FieldType.int)) ∈ lwg := tb_4 76 rfl rfl
theorem W_4_77 : (Jvm.Cond.methodLink "SyncTree$Walker" (42 : Nat) ({ cls := "java/lang/Math", name := "min", desc := "(II)I" } : Jvm.MethodName)) ∈ lwg := tb_4 77 rfl rfl
theorem W_4_78 : (Jvm.Cond.methodLink "SyncTree$Walker" (48 : Nat) ({ cls := "java/lang/Math", name := "max", desc := "(II)I" } : Jvm.MethodName)) ∈ lwg := tb_4 78 rfl rfl
theorem W_4_79 : (Jvm.Cond.methodLink "SyncTree$Walker" (57 : Nat) ({ cls := "java/lang/System", name := "arraycopy", desc := "(Ljava/lang/Object;ILjava/lang/Object;II)V" } : Jvm.MethodName)) ∈ lwg := tb_4 79 rfl rfl
theorem W_4_80 : (Jvm.Cond.methodLink "SyncTree$Walker" (69 : Nat) ({ cls := "SyncTree$Walker", name := "endOfSlashes", desc := "(I)I" } : Jvm.MethodName)) ∈ lwg := tb_4 80 rfl rfl
theorem W_4_82 : (Jvm.Cond.instanceMethod ({ cls := "SyncTree$Walker", name := "endOfSlashes", desc := "(I)I" } : Jvm.MethodName)) ∈ lwg := tb_4 82 rfl rfl
theorem W_4_83 : (Jvm.Cond.code ({ cls := "SyncTree$Walker", name := "endOfSlashes", desc := "(I)I" } : Jvm.MethodName) prog_11_method_5_code (3 : Nat) (Option.some Jvm.ClassFile.FieldType.int)) ∈ lwg := tb_4 83 rfl rfl
theorem W_4_84 : (Jvm.Cond.methodLink "SyncTree$Walker" (72 : Nat) ({ cls := "SyncTree$Walker", name := "endOfName", desc := "(I)I" } : Jvm.MethodName)) ∈ lwg := tb_4 84 rfl rfl
theorem W_4_86 : (Jvm.Cond.instanceMethod ({ cls := "SyncTree$Walker", name := "endOfName", desc := "(I)I" } : Jvm.MethodName)) ∈ lwg := tb_4 86 rfl rfl
theorem W_4_87 : (Jvm.Cond.code ({ cls := "SyncTree$Walker", name := "endOfName", desc := "(I)I" } : Jvm.MethodName) prog_11_method_6_code (3 : Nat) (Option.some Jvm.ClassFile.FieldType.int)) ∈ lwg := tb_4 87 rfl rfl
theorem W_4_88 : (Jvm.Cond.methodLink "SyncTree$Walker" (75 : Nat) ({ cls := "SyncTree$Walker", name := "look", desc := "(III)I" } : Jvm.MethodName)) ∈ lwg := tb_4 88 rfl rfl
theorem W_4_90 : (Jvm.Cond.instanceMethod ({ cls := "SyncTree$Walker", name := "look", desc := "(III)I" } : Jvm.MethodName)) ∈ lwg := tb_4 90 rfl rfl
theorem W_4_91 : (Jvm.Cond.code ({ cls := "SyncTree$Walker", name := "look", desc := "(III)I" } : Jvm.MethodName) prog_11_method_7_code (5 : Nat) (Option.some Jvm.ClassFile.FieldType.int)) ∈ lwg := tb_4 91 rfl rfl
theorem W_4_92 : (Jvm.Cond.methodLink "SyncTree$Walker" (36 : Nat) ({ cls := "SyncTree$Tree", name := "kind", desc := "(I)I" } : Jvm.MethodName)) ∈ lwg := tb_4 92 rfl rfl
theorem W_4_93 : (Jvm.Cond.methodLink "SyncTree$Walker" (83 : Nat) ({ cls := "SyncTree$PathText", name := "isDots", desc := "([BII)Z" } : Jvm.MethodName)) ∈ lwg := tb_4 93 rfl rfl
theorem W_4_94 : (Jvm.Cond.static ({ cls := "SyncTree$PathText", name := "isDots", desc := "([BII)Z" } : Jvm.MethodName)) ∈ lwg := tb_4 94 rfl rfl
theorem W_4_95 : (Jvm.Cond.code ({ cls := "SyncTree$PathText", name := "isDots", desc := "([BII)Z" } : Jvm.MethodName) prog_5_method_5_code (3 : Nat) (Option.some Jvm.ClassFile.FieldType.boolean)) ∈ lwg := tb_4 95 rfl rfl
theorem W_4_96 : (Jvm.Cond.methodLink "SyncTree$Walker" (87 : Nat) ({ cls := "SyncTree$Tree", name := "parent", desc := "(I)I" } : Jvm.MethodName)) ∈ lwg := tb_4 96 rfl rfl
theorem W_4_97 : (Jvm.Cond.instanceMethod ({ cls := "SyncTree$Tree", name := "parent", desc := "(I)I" } : Jvm.MethodName)) ∈ lwg := tb_4 97 rfl rfl
theorem W_4_98 : (Jvm.Cond.selects "SyncTree$Tree" ({ cls := "SyncTree$Tree", name := "parent", desc := "(I)I" } : Jvm.MethodName) ({ cls := "SyncTree$Tree", name := "parent", desc := "(I)I" } : Jvm.MethodName)) ∈ lwg := tb_4 98 rfl rfl
theorem W_4_99 : (Jvm.Cond.code ({ cls := "SyncTree$Tree", name := "parent", desc := "(I)I" } : Jvm.MethodName) prog_10_method_8_code (2 : Nat) (Option.some Jvm.ClassFile.FieldType.int)) ∈ lwg := tb_4 99 rfl rfl
theorem W_4_100 : (Jvm.Cond.methodLink "SyncTree$Walker" (90 : Nat) ({ cls := "SyncTree$Tree", name := "find", desc := "(I[BII)I" } : Jvm.MethodName)) ∈ lwg := tb_4 100 rfl rfl
theorem W_4_101 : (Jvm.Cond.instanceMethod ({ cls := "SyncTree$Tree", name := "find", desc := "(I[BII)I" } : Jvm.MethodName)) ∈ lwg := tb_4 101 rfl rfl
theorem W_4_102 : (Jvm.Cond.selects "SyncTree$Tree" ({ cls := "SyncTree$Tree", name := "find", desc := "(I[BII)I" } : Jvm.MethodName) ({ cls := "SyncTree$Tree", name := "find", desc := "(I[BII)I" } : Jvm.MethodName)) ∈ lwg := tb_4 102 rfl rfl
theorem W_4_103 : (Jvm.Cond.code ({ cls := "SyncTree$Tree", name := "find", desc := "(I[BII)I" } : Jvm.MethodName) prog_10_method_47_code (10 : Nat) (Option.some Jvm.ClassFile.FieldType.int)) ∈ lwg := tb_4 103 rfl rfl
theorem W_4_104 : (Jvm.Cond.methodLink "SyncTree$Tree" (169 : Nat) ({ cls := "SyncTree$Tree", name := "entries", desc := "(I)I" } : Jvm.MethodName)) ∈ lwg := tb_4 104 rfl rfl
theorem W_4_105 : (Jvm.Cond.instanceMethod ({ cls := "SyncTree$Tree", name := "entries", desc := "(I)I" } : Jvm.MethodName)) ∈ lwg := tb_4 105 rfl rfl
theorem W_4_106 : (Jvm.Cond.selects "SyncTree$Tree" ({ cls := "SyncTree$Tree", name := "entries", desc := "(I)I" } : Jvm.MethodName) ({ cls := "SyncTree$Tree", name := "entries", desc := "(I)I" } : Jvm.MethodName)) ∈ lwg := tb_4 106 rfl rfl
theorem W_4_107 : (Jvm.Cond.code ({ cls := "SyncTree$Tree", name := "entries", desc := "(I)I" } : Jvm.MethodName) prog_10_method_41_code (4 : Nat) (Option.some Jvm.ClassFile.FieldType.int)) ∈ lwg := tb_4 107 rfl rfl
theorem W_4_108 : (Jvm.Cond.constantLong "SyncTree$Tree" (167 : Nat) (2 : Int64)) ∈ lwg := tb_4 108 rfl rfl
theorem W_4_109 : (Jvm.Cond.methodLink "SyncTree$Tree" (112 : Nat) ({ cls := "SyncTree$Tree", name := "pointer", desc := "(II)J" } : Jvm.MethodName)) ∈ lwg := tb_4 109 rfl rfl
theorem W_4_110 : (Jvm.Cond.instanceMethod ({ cls := "SyncTree$Tree", name := "pointer", desc := "(II)J" } : Jvm.MethodName)) ∈ lwg := tb_4 110 rfl rfl
theorem W_4_111 : (Jvm.Cond.selects "SyncTree$Tree" ({ cls := "SyncTree$Tree", name := "pointer", desc := "(II)J" } : Jvm.MethodName) ({ cls := "SyncTree$Tree", name := "pointer", desc := "(II)J" } : Jvm.MethodName)) ∈ lwg := tb_4 111 rfl rfl
theorem W_4_112 : (Jvm.Cond.code ({ cls := "SyncTree$Tree", name := "pointer", desc := "(II)J" } : Jvm.MethodName) prog_10_method_26_code (4 : Nat) (Option.some Jvm.ClassFile.FieldType.long)) ∈ lwg := tb_4 112 rfl rfl
theorem W_4_113 : (Jvm.Cond.methodLink "SyncTree$Tree" (101 : Nat) ({ cls := "SyncTree$Tree", name := "table", desc := "(II)J" } : Jvm.MethodName)) ∈ lwg := tb_4 113 rfl rfl
theorem W_4_115 : (Jvm.Cond.instanceMethod ({ cls := "SyncTree$Tree", name := "table", desc := "(II)J" } : Jvm.MethodName)) ∈ lwg := tb_4 115 rfl rfl
theorem W_4_116 : (Jvm.Cond.code ({ cls := "SyncTree$Tree", name := "table", desc := "(II)J" } : Jvm.MethodName) prog_10_method_25_code (5 : Nat) (Option.some Jvm.ClassFile.FieldType.long)) ∈ lwg := tb_4 116 rfl rfl
theorem W_4_117 : (Jvm.Cond.methodLink "SyncTree$Tree" (104 : Nat) ({ cls := "SyncTree$Tree", name := "cellOf", desc := "(J)I" } : Jvm.MethodName)) ∈ lwg := tb_4 117 rfl rfl
theorem W_4_118 : (Jvm.Cond.static ({ cls := "SyncTree$Tree", name := "cellOf", desc := "(J)I" } : Jvm.MethodName)) ∈ lwg := tb_4 118 rfl rfl
theorem W_4_119 : (Jvm.Cond.code ({ cls := "SyncTree$Tree", name := "cellOf", desc := "(J)I" } : Jvm.MethodName) prog_10_method_2_code (2 : Nat) (Option.some Jvm.ClassFile.FieldType.int)) ∈ lwg := tb_4 119 rfl rfl
theorem W_4_120 : (Jvm.Cond.methodLink "SyncTree$Tree" (86 : Nat) ({ cls := "SyncTree$Space", name := "octet", desc := "(II)I" } : Jvm.MethodName)) ∈ lwg := tb_4 120 rfl rfl
theorem W_4_121 : (Jvm.Cond.instanceMethod ({ cls := "SyncTree$Space", name := "octet", desc := "(II)I" } : Jvm.MethodName)) ∈ lwg := tb_4 121 rfl rfl
theorem W_4_122 : (Jvm.Cond.selects "SyncTree$Space" ({ cls := "SyncTree$Space", name := "octet", desc := "(II)I" } : Jvm.MethodName) ({ cls := "SyncTree$Space", name := "octet", desc := "(II)I" } : Jvm.MethodName)) ∈ lwg := tb_4 122 rfl rfl
theorem W_4_123 : (Jvm.Cond.code ({ cls := "SyncTree$Space", name := "octet", desc := "(II)I" } : Jvm.MethodName) prog_7_method_14_code (3 : Nat) (Option.some Jvm.ClassFile.FieldType.int)) ∈ lwg := tb_4 123 rfl rfl
theorem W_4_124 : (Jvm.Cond.methodLink "SyncTree$Walker" (94 : Nat) ({ cls := "SyncTree$Tree", name := "nodeAt", desc := "(II)I" } : Jvm.MethodName)) ∈ lwg := tb_4 124 rfl rfl
theorem W_4_125 : (Jvm.Cond.instanceMethod ({ cls := "SyncTree$Tree", name := "nodeAt", desc := "(II)I" } : Jvm.MethodName)) ∈ lwg := tb_4 125 rfl rfl
theorem W_4_126 : (Jvm.Cond.selects "SyncTree$Tree" ({ cls := "SyncTree$Tree", name := "nodeAt", desc := "(II)I" } : Jvm.MethodName) ({ cls := "SyncTree$Tree", name := "nodeAt", desc := "(II)I" } : Jvm.MethodName)) ∈ lwg := tb_4 126 rfl rfl
theorem W_4_127 : (Jvm.Cond.code ({ cls := "SyncTree$Tree", name := "nodeAt", desc := "(II)I" } : Jvm.MethodName) prog_10_method_45_code (3 : Nat) (Option.some Jvm.ClassFile.FieldType.int)) ∈ lwg := tb_4 127 rfl rfl
theorem W_4_128 : (Jvm.Cond.methodLink "SyncTree$Walker" (79 : Nat) ({ cls := "SyncTree$Walker", name := "standIn", desc := "(I)Z" } : Jvm.MethodName)) ∈ lwg := tb_4 128 rfl rfl
theorem W_4_130 : (Jvm.Cond.instanceMethod ({ cls := "SyncTree$Walker", name := "standIn", desc := "(I)Z" } : Jvm.MethodName)) ∈ lwg := tb_4 130 rfl rfl
theorem W_4_131 : (Jvm.Cond.code ({ cls := "SyncTree$Walker", name := "standIn", desc := "(I)Z" } : Jvm.MethodName) prog_11_method_8_code (5 : Nat) (Option.some Jvm.ClassFile.FieldType.boolean)) ∈ lwg := tb_4 131 rfl rfl
theorem W_4_132 : (Jvm.Cond.methodLink "SyncTree$Walker" (97 : Nat) ({ cls := "SyncTree$Tree", name := "size", desc := "(I)I" } : Jvm.MethodName)) ∈ lwg := tb_4 132 rfl rfl
theorem W_4_133 : (Jvm.Cond.instanceMethod ({ cls := "SyncTree$Tree", name := "size", desc := "(I)I" } : Jvm.MethodName)) ∈ lwg := tb_4 133 rfl rfl
theorem W_4_134 : (Jvm.Cond.selects "SyncTree$Tree" ({ cls := "SyncTree$Tree", name := "size", desc := "(I)I" } : Jvm.MethodName) ({ cls := "SyncTree$Tree", name := "size", desc := "(I)I" } : Jvm.MethodName)) ∈ lwg := tb_4 134 rfl rfl
theorem W_4_135 : (Jvm.Cond.code ({ cls := "SyncTree$Tree", name := "size", desc := "(I)I" } : Jvm.MethodName) prog_10_method_9_code (2 : Nat) (Option.some Jvm.ClassFile.FieldType.int)) ∈ lwg := tb_4 135 rfl rfl
theorem W_4_136 : (Jvm.Cond.methodLink "SyncTree$Walker" (100 : Nat) ({ cls := "SyncTree$Tree", name := "textOctet", desc := "(II)I" } : Jvm.MethodName)) ∈ lwg := tb_4 136 rfl rfl
theorem W_4_137 : (Jvm.Cond.instanceMethod ({ cls := "SyncTree$Tree", name := "textOctet", desc := "(II)I" } : Jvm.MethodName)) ∈ lwg := tb_4 137 rfl rfl
theorem W_4_138 : (Jvm.Cond.selects "SyncTree$Tree" ({ cls := "SyncTree$Tree", name := "textOctet", desc := "(II)I" } : Jvm.MethodName) ({ cls := "SyncTree$Tree", name := "textOctet", desc := "(II)I" } : Jvm.MethodName)) ∈ lwg := tb_4 138 rfl rfl
theorem W_4_139 : (Jvm.Cond.code ({ cls := "SyncTree$Tree", name := "textOctet", desc := "(II)I" } : Jvm.MethodName) prog_10_method_16_code (3 : Nat) (Option.some Jvm.ClassFile.FieldType.int)) ∈ lwg := tb_4 139 rfl rfl
theorem W_4_140 : (Jvm.Cond.methodLink "SyncTree$Walker" (32 : Nat) ({ cls := "SyncTree$PathText", name := "hasOwnLastName", desc := "()Z" } : Jvm.MethodName)) ∈ lwg := tb_4 140 rfl rfl
theorem W_4_141 : (Jvm.Cond.instanceMethod ({ cls := "SyncTree$PathText", name := "hasOwnLastName", desc := "()Z" } : Jvm.MethodName)) ∈ lwg := tb_4 141 rfl rfl
theorem W_4_142 : (Jvm.Cond.selects "SyncTree$PathText" ({ cls := "SyncTree$PathText", name := "hasOwnLastName", desc := "()Z" } : Jvm.MethodName) ({ cls := "SyncTree$PathText", name := "hasOwnLastName", desc := "()Z" } : Jvm.MethodName)) ∈ lwg := tb_4 142 rfl rfl
theorem W_4_143 : (Jvm.Cond.code ({ cls := "SyncTree$PathText", name := "hasOwnLastName", desc := "()Z" } : Jvm.MethodName) prog_5_method_4_code (1 : Nat) (Option.some Jvm.ClassFile.FieldType.boolean)) ∈ lwg := tb_4 143 rfl rfl
theorem W_4_144 : (Jvm.Cond.methodLink "SyncTree$PathText" (40 : Nat) ({ cls := "SyncTree$PathText", name := "isDots", desc := "([BII)Z" } : Jvm.MethodName)) ∈ lwg := tb_4 144 rfl rfl
theorem W_4_145 : (Jvm.Cond.methodLink "SyncTree" (157 : Nat) ({ cls := "SyncTree$Tree", name := "findLast", desc := "(ILSyncTree$PathText;)I" } : Jvm.MethodName)) ∈ lwg := tb_4 145 rfl rfl
theorem W_4_146 : (Jvm.Cond.instanceMethod ({ cls := "SyncTree$Tree", name := "findLast", desc := "(ILSyncTree$PathText;)I" } : Jvm.MethodName)) ∈ lwg := tb_4 146 rfl rfl
theorem W_4_147 : (Jvm.Cond.selects "SyncTree$Tree" ({ cls := "SyncTree$Tree", name := "findLast", desc := "(ILSyncTree$PathText;)I" } : Jvm.MethodName) ({ cls := "SyncTree$Tree", name := "findLast", desc := "(ILSyncTree$PathText;)I" } : Jvm.MethodName)) ∈ lwg := tb_4 147 rfl rfl
theorem W_4_148 : (Jvm.Cond.code ({ cls := "SyncTree$Tree", name := "findLast", desc := "(ILSyncTree$PathText;)I" } : Jvm.MethodName) prog_10_method_46_code (3 : Nat) (Option.some Jvm.ClassFile.FieldType.int)) ∈ lwg := tb_4 148 rfl rfl
theorem W_4_149 : (Jvm.Cond.methodLink "SyncTree$Tree" (181 : Nat) ({ cls := "SyncTree$Tree", name := "find", desc := "(I[BII)I" } : Jvm.MethodName)) ∈ lwg := tb_4 149 rfl rfl
theorem W_4_150 : (Jvm.Cond.methodLink "SyncTree" (134 : Nat) ({ cls := "SyncTree", name := "make", desc := "(II)I" } : Jvm.MethodName)) ∈ lwg := tb_4 150 rfl rfl
theorem W_4_152 : (Jvm.Cond.instanceMethod ({ cls := "SyncTree", name := "make", desc := "(II)I" } : Jvm.MethodName)) ∈ lwg := tb_4 152 rfl rfl
theorem W_4_153 : (Jvm.Cond.code ({ cls := "SyncTree", name := "make", desc := "(II)I" } : Jvm.MethodName) prog_1_method_9_code (4 : Nat) (Option.some Jvm.ClassFile.FieldType.int)) ∈ lwg := tb_4 153 rfl rfl
theorem W_4_154 : (Jvm.Cond.methodLink "SyncTree" (139 : Nat) ({ cls := "SyncTree$Tree", name := "lowestUnused", desc := "()I" } : Jvm.MethodName)) ∈ lwg := tb_4 154 rfl rfl
theorem W_4_155 : (Jvm.Cond.instanceMethod ({ cls := "SyncTree$Tree", name := "lowestUnused", desc := "()I" } : Jvm.MethodName)) ∈ lwg := tb_4 155 rfl rfl
theorem W_4_156 : (Jvm.Cond.selects "SyncTree$Tree" ({ cls := "SyncTree$Tree", name := "lowestUnused", desc := "()I" } : Jvm.MethodName) ({ cls := "SyncTree$Tree", name := "lowestUnused", desc := "()I" } : Jvm.MethodName)) ∈ lwg := tb_4 156 rfl rfl
theorem W_4_157 : (Jvm.Cond.code ({ cls := "SyncTree$Tree", name := "lowestUnused", desc := "()I" } : Jvm.MethodName) prog_10_method_17_code (2 : Nat) (Option.some Jvm.ClassFile.FieldType.int)) ∈ lwg := tb_4 157 rfl rfl
theorem W_4_158 : (Jvm.Cond.methodLink "SyncTree" (142 : Nat) ({ cls := "SyncTree$Tree", name := "hasPlaceForEntry", desc := "(I)Z" } : Jvm.MethodName)) ∈ lwg := tb_4 158 rfl rfl
theorem W_4_159 : (Jvm.Cond.instanceMethod ({ cls := "SyncTree$Tree", name := "hasPlaceForEntry", desc := "(I)Z" } : Jvm.MethodName)) ∈ lwg := tb_4 159 rfl rfl
theorem W_4_160 : (Jvm.Cond.selects "SyncTree$Tree" ({ cls := "SyncTree$Tree", name := "hasPlaceForEntry", desc := "(I)Z" } : Jvm.MethodName) ({ cls := "SyncTree$Tree", name := "hasPlaceForEntry", desc := "(I)Z" } : Jvm.MethodName)) ∈ lwg := tb_4 160 rfl rfl
theorem W_4_161 : (Jvm.Cond.code ({ cls := "SyncTree$Tree", name := "hasPlaceForEntry", desc := "(I)Z" } : Jvm.MethodName) prog_10_method_49_code (3 : Nat) (Option.some Jvm.ClassFile.FieldType.boolean)) ∈ lwg := tb_4 161 rfl rfl
theorem W_4_162 : (Jvm.Cond.methodLink "SyncTree$Tree" (185 : Nat) ({ cls := "SyncTree$Tree", name := "placeForEntry", desc := "(I)I" } : Jvm.MethodName)) ∈ lwg := tb_4 162 rfl rfl
theorem W_4_164 : (Jvm.Cond.instanceMethod ({ cls := "SyncTree$Tree", name := "placeForEntry", desc := "(I)I" } : Jvm.MethodName)) ∈ lwg := tb_4 164 rfl rfl
theorem W_4_165 : (Jvm.Cond.code ({ cls := "SyncTree$Tree", name := "placeForEntry", desc := "(I)I" } : Jvm.MethodName) prog_10_method_48_code (4 : Nat) (Option.some Jvm.ClassFile.FieldType.int)) ∈ lwg := tb_4 165 rfl rfl
theorem W_4_166 : (Jvm.Cond.methodLink "SyncTree$Tree" (172 : Nat) ({ cls := "SyncTree$Tree", name := "nameLength", desc := "(II)I" } : Jvm.MethodName)) ∈ lwg := tb_4 166 rfl rfl
theorem W_4_167 : (Jvm.Cond.instanceMethod ({ cls := "SyncTree$Tree", name := "nameLength", desc := "(II)I" } : Jvm.MethodName)) ∈ lwg := tb_4 167 rfl rfl
theorem W_4_168 : (Jvm.Cond.selects "SyncTree$Tree" ({ cls := "SyncTree$Tree", name := "nameLength", desc := "(II)I" } : Jvm.MethodName) ({ cls := "SyncTree$Tree", name := "nameLength", desc := "(II)I" } : Jvm.MethodName)) ∈ lwg := tb_4 168 rfl rfl
theorem W_4_169 : (Jvm.Cond.code ({ cls := "SyncTree$Tree", name := "nameLength", desc := "(II)I" } : Jvm.MethodName) prog_10_method_43_code (3 : Nat) (Option.some Jvm.ClassFile.FieldType.int)) ∈ lwg := tb_4 169 rfl rfl
theorem W_4_170 : (Jvm.Cond.methodLink "SyncTree$Tree" (188 : Nat) ({ cls := "SyncTree$Tree", name := "needs", desc := "(III)I" } : Jvm.MethodName)) ∈ lwg := tb_4 170 rfl rfl
theorem W_4_171 : (Jvm.Cond.instanceMethod ({ cls := "SyncTree$Tree", name := "needs", desc := "(III)I" } : Jvm.MethodName)) ∈ lwg := tb_4 171 rfl rfl
theorem W_4_172 : (Jvm.Cond.selects "SyncTree$Tree" ({ cls := "SyncTree$Tree", name := "needs", desc := "(III)I" } : Jvm.MethodName) ({ cls := "SyncTree$Tree", name := "needs", desc := "(III)I" } : Jvm.MethodName)) ∈ lwg := tb_4 172 rfl rfl
theorem W_4_173 : (Jvm.Cond.code ({ cls := "SyncTree$Tree", name := "needs", desc := "(III)I" } : Jvm.MethodName) prog_10_method_28_code (7 : Nat) (Option.some Jvm.ClassFile.FieldType.int)) ∈ lwg := tb_4 173 rfl rfl
theorem W_4_174 : (Jvm.Cond.constant "SyncTree$Tree" (111 : Nat) (1000000 : Int32)) ∈ lwg := tb_4 174 rfl rfl
theorem W_4_175 : (Jvm.Cond.methodLink "SyncTree" (145 : Nat) ({ cls := "SyncTree$Tree", name := "setText", desc := "(ILSyncTree$PathText;)V" } : Jvm.MethodName)) ∈ lwg := tb_4 175 rfl rfl
theorem W_4_176 : (Jvm.Cond.instanceMethod ({ cls := "SyncTree$Tree", name := "setText", desc := "(ILSyncTree$PathText;)V" } : Jvm.MethodName)) ∈ lwg := tb_4 176 rfl rfl
theorem W_4_177 : (Jvm.Cond.selects "SyncTree$Tree" ({ cls := "SyncTree$Tree", name := "setText", desc := "(ILSyncTree$PathText;)V" } : Jvm.MethodName) ({ cls := "SyncTree$Tree", name := "setText", desc := "(ILSyncTree$PathText;)V" } : Jvm.MethodName)) ∈ lwg := tb_4 177 rfl rfl
theorem W_4_178 : (Jvm.Cond.code ({ cls := "SyncTree$Tree", name := "setText", desc := "(ILSyncTree$PathText;)V" } : Jvm.MethodName) prog_10_method_15_code (6 : Nat) (Option.none : Option Jvm.ClassFile.FieldType)) ∈ lwg := tb_4 178 rfl rfl
theorem W_4_179 : (Jvm.Cond.methodLink "SyncTree$Tree" (73 : Nat) ({ cls := "java/lang/Math", name := "min", desc := "(II)I" } : Jvm.MethodName)) ∈ lwg := tb_4 179 rfl rfl
theorem W_4_180 : (Jvm.Cond.methodLink "SyncTree$Tree" (79 : Nat) ({ cls := "SyncTree$Space", name := "setOctet", desc := "(III)V" } : Jvm.MethodName)) ∈ lwg := tb_4 180 rfl rfl
theorem W_4_181 : (Jvm.Cond.instanceMethod ({ cls := "SyncTree$Space", name := "setOctet", desc := "(III)V" } : Jvm.MethodName)) ∈ lwg := tb_4 181 rfl rfl
theorem W_4_182 : (Jvm.Cond.selects "SyncTree$Space" ({ cls := "SyncTree$Space", name := "setOctet", desc := "(III)V" } : Jvm.MethodName) ({ cls := "SyncTree$Space", name := "setOctet", desc := "(III)V" } : Jvm.MethodName)) ∈ lwg := tb_4 182 rfl rfl
theorem W_4_183 : (Jvm.Cond.code ({ cls := "SyncTree$Space", name := "setOctet", desc := "(III)V" } : Jvm.MethodName) prog_7_method_15_code (6 : Nat) (Option.none : Option Jvm.ClassFile.FieldType)) ∈ lwg := tb_4 183 rfl rfl
theorem W_4_184 : (Jvm.Cond.constantLong "SyncTree$Space" (100 : Nat) (255 : Int64)) ∈ lwg := tb_4 184 rfl rfl
theorem W_4_185 : (Jvm.Cond.constantLong "SyncTree$Space" (102 : Nat) (-1 : Int64)) ∈ lwg := tb_4 185 rfl rfl
theorem W_4_186 : (Jvm.Cond.methodLink "SyncTree$Tree" (83 : Nat) ({ cls := "SyncTree$Tree", name := "setSize", desc := "(II)V" } : Jvm.MethodName)) ∈ lwg := tb_4 186 rfl rfl
theorem W_4_188 : (Jvm.Cond.instanceMethod ({ cls := "SyncTree$Tree", name := "setSize", desc := "(II)V" } : Jvm.MethodName)) ∈ lwg := tb_4 188 rfl rfl
theorem W_4_189 : (Jvm.Cond.code ({ cls := "SyncTree$Tree", name := "setSize", desc := "(II)V" } : Jvm.MethodName) prog_10_method_13_code (3 : Nat) (Option.none : Option Jvm.ClassFile.FieldType)) ∈ lwg := tb_4 189 rfl rfl
theorem W_4_190 : (Jvm.Cond.methodLink "SyncTree$Tree" (60 : Nat) ({ cls := "SyncTree$Tree", name := "names", desc := "(I)I" } : Jvm.MethodName)) ∈ lwg := tb_4 190 rfl rfl
theorem W_4_191 : (Jvm.Cond.instanceMethod ({ cls := "SyncTree$Tree", name := "names", desc := "(I)I" } : Jvm.MethodName)) ∈ lwg := tb_4 191 rfl rfl
theorem W_4_192 : (Jvm.Cond.selects "SyncTree$Tree" ({ cls := "SyncTree$Tree", name := "names", desc := "(I)I" } : Jvm.MethodName) ({ cls := "SyncTree$Tree", name := "names", desc := "(I)I" } : Jvm.MethodName)) ∈ lwg := tb_4 192 rfl rfl
theorem W_4_193 : (Jvm.Cond.code ({ cls := "SyncTree$Tree", name := "names", desc := "(I)I" } : Jvm.MethodName) prog_10_method_7_code (2 : Nat) (Option.some Jvm.ClassFile.FieldType.int)) ∈ lwg := tb_4 193 rfl rfl
theorem W_4_194 : (Jvm.Cond.methodLink "SyncTree$Tree" (50 : Nat) ({ cls := "SyncTree$Tree", name := "parent", desc := "(I)I" } : Jvm.MethodName)) ∈ lwg := tb_4 194 rfl rfl
theorem W_4_195 : (Jvm.Cond.methodLink "SyncTree" (149 : Nat) ({ cls := "SyncTree$Tree", name := "addEntry", desc := "(ILSyncTree$PathText;I)V" } : Jvm.MethodName)) ∈ lwg := tb_4 195 rfl rfl
theorem W_4_196 : (Jvm.Cond.instanceMethod ({ cls := "SyncTree$Tree", name := "addEntry", desc := "(ILSyncTree$PathText;I)V" } : Jvm.MethodName)) ∈ lwg := tb_4 196 rfl rfl
theorem W_4_197 : (Jvm.Cond.selects "SyncTree$Tree" ({ cls := "SyncTree$Tree", name := "addEntry", desc := "(ILSyncTree$PathText;I)V" } : Jvm.MethodName) ({ cls := "SyncTree$Tree", name := "addEntry", desc := "(ILSyncTree$PathText;I)V" } : Jvm.MethodName)) ∈ lwg := tb_4 197 rfl rfl
theorem W_4_198 : (Jvm.Cond.code ({ cls := "SyncTree$Tree", name := "addEntry", desc := "(ILSyncTree$PathText;I)V" } : Jvm.MethodName) prog_10_method_50_code (5 : Nat) (Option.none : Option Jvm.ClassFile.FieldType)) ∈ lwg := tb_4 198 rfl rfl
theorem W_4_199 : (Jvm.Cond.methodLink "SyncTree$Tree" (195 : Nat) ({ cls := "SyncTree$Tree", name := "obtain", desc := "(II)V" } : Jvm.MethodName)) ∈ lwg := tb_4 199 rfl rfl
theorem W_4_200 : (Jvm.Cond.instanceMethod ({ cls := "SyncTree$Tree", name := "obtain", desc := "(II)V" } : Jvm.MethodName)) ∈ lwg := tb_4 200 rfl rfl
theorem W_4_201 : (Jvm.Cond.selects "SyncTree$Tree" ({ cls := "SyncTree$Tree", name := "obtain", desc := "(II)V" } : Jvm.MethodName) ({ cls := "SyncTree$Tree", name := "obtain", desc := "(II)V" } : Jvm.MethodName)) ∈ lwg := tb_4 201 rfl rfl
theorem W_4_202 : (Jvm.Cond.code ({ cls := "SyncTree$Tree", name := "obtain", desc := "(II)V" } : Jvm.MethodName) prog_10_method_29_code (5 : Nat) (Option.none : Option Jvm.ClassFile.FieldType)) ∈ lwg := tb_4 202 rfl rfl
theorem W_4_203 : (Jvm.Cond.methodLink "SyncTree$Tree" (115 : Nat) ({ cls := "SyncTree$Space", name := "obtain", desc := "(IZ)J" } : Jvm.MethodName)) ∈ lwg := tb_4 203 rfl rfl
theorem W_4_204 : (Jvm.Cond.instanceMethod ({ cls := "SyncTree$Space", name := "obtain", desc := "(IZ)J" } : Jvm.MethodName)) ∈ lwg := tb_4 204 rfl rfl
theorem W_4_205 : (Jvm.Cond.selects "SyncTree$Space" ({ cls := "SyncTree$Space", name := "obtain", desc := "(IZ)J" } : Jvm.MethodName) ({ cls := "SyncTree$Space", name := "obtain", desc := "(IZ)J" } : Jvm.MethodName)) ∈ lwg := tb_4 205 rfl rfl
theorem W_4_206 : (Jvm.Cond.code ({ cls := "SyncTree$Space", name := "obtain", desc := "(IZ)J" } : Jvm.MethodName) prog_7_method_23_code (4 : Nat) (Option.some Jvm.ClassFile.FieldType.long)) ∈ lwg := tb_4 206 rfl rfl
theorem W_4_207 : (Jvm.Cond.methodLink "SyncTree$Space" (122 : Nat) ({ cls := "SyncTree$Space", name := "adopt", desc := "(III)V" } : Jvm.MethodName)) ∈ lwg := tb_4 207 rfl rfl
theorem W_4_208 : (Jvm.Cond.instanceMethod ({ cls := "SyncTree$Space", name := "adopt", desc := "(III)V" } : Jvm.MethodName)) ∈ lwg := tb_4 208 rfl rfl
theorem W_4_209 : (Jvm.Cond.selects "SyncTree$Space" ({ cls := "SyncTree$Space", name := "adopt", desc := "(III)V" } : Jvm.MethodName) ({ cls := "SyncTree$Space", name := "adopt", desc := "(III)V" } : Jvm.MethodName)) ∈ lwg := tb_4 209 rfl rfl
theorem W_4_210 : (Jvm.Cond.code ({ cls := "SyncTree$Space", name := "adopt", desc := "(III)V" } : Jvm.MethodName) prog_7_method_24_code (4 : Nat) (Option.none : Option Jvm.ClassFile.FieldType)) ∈ lwg := tb_4 210 rfl rfl
theorem W_4_211 : (Jvm.Cond.methodLink "SyncTree$Space" (125 : Nat) ({ cls := "SyncTree$Space", name := "mark", desc := "(IZ)V" } : Jvm.MethodName)) ∈ lwg := tb_4 211 rfl rfl
theorem W_4_213 : (Jvm.Cond.instanceMethod ({ cls := "SyncTree$Space", name := "mark", desc := "(IZ)V" } : Jvm.MethodName)) ∈ lwg := tb_4 213 rfl rfl
theorem W_4_214 : (Jvm.Cond.code ({ cls := "SyncTree$Space", name := "mark", desc := "(IZ)V" } : Jvm.MethodName) prog_7_method_27_code (7 : Nat) (Option.none : Option Jvm.ClassFile.FieldType)) ∈ lwg := tb_4 214 rfl rfl
theorem W_4_215 : (Jvm.Cond.methodLink "SyncTree$Space" (97 : Nat) ({ cls := "SyncTree$Space", name := "touch", desc := "(I)V" } : Jvm.MethodName)) ∈ lwg := tb_4 215 rfl rfl
theorem W_4_216 : (Jvm.Cond.methodLink "SyncTree$Tree" (108 : Nat) ({ cls := "SyncTree$Space", name := "setWord", desc := "(IIJ)V" } : Jvm.MethodName)) ∈ lwg := tb_4 216 rfl rfl
theorem W_4_217 : (Jvm.Cond.instanceMethod ({ cls := "SyncTree$Space", name := "setWord", desc := "(IIJ)V" } : Jvm.MethodName)) ∈ lwg := tb_4 217 rfl rfl
theorem W_4_218 : (Jvm.Cond.selects "SyncTree$Space" ({ cls := "SyncTree$Space", name := "setWord", desc := "(IIJ)V" } : Jvm.MethodName) ({ cls := "SyncTree$Space", name := "setWord", desc := "(IIJ)V" } : Jvm.MethodName)) ∈ lwg := tb_4 218 rfl rfl
theorem W_4_219 : (Jvm.Cond.code ({ cls := "SyncTree$Space", name := "setWord", desc := "(IIJ)V" } : Jvm.MethodName) prog_7_method_13_code (5 : Nat) (Option.none : Option Jvm.ClassFile.FieldType)) ∈ lwg := tb_4 219 rfl rfl
theorem W_4_220 : (Jvm.Cond.methodLink "SyncTree$Tree" (119 : Nat) ({ cls := "SyncTree$Tree", name := "setPointer", desc := "(IIJ)V" } : Jvm.MethodName)) ∈ lwg := tb_4 220 rfl rfl
theorem W_4_222 : (Jvm.Cond.instanceMethod ({ cls := "SyncTree$Tree", name := "setPointer", desc := "(IIJ)V" } : Jvm.MethodName)) ∈ lwg := tb_4 222 rfl rfl
theorem W_4_223 : (Jvm.Cond.code ({ cls := "SyncTree$Tree", name := "setPointer", desc := "(IIJ)V" } : Jvm.MethodName) prog_10_method_27_code (5 : Nat) (Option.none : Option Jvm.ClassFile.FieldType)) ∈ lwg := tb_4 223 rfl rfl
theorem W_4_224 : (Jvm.Cond.methodLink "SyncTree$Tree" (53 : Nat) ({ cls := "SyncTree$Tree", name := "size", desc := "(I)I" } : Jvm.MethodName)) ∈ lwg := tb_4 224 rfl rfl
theorem W_4_225 : (Jvm.Cond.methodLink "SyncTree$Tree" (197 : Nat) ({ cls := "SyncTree$Tree", name := "setEntry", desc := "(IILSyncTree$PathText;I)V" } : Jvm.MethodName)) ∈ lwg := tb_4 225 rfl rfl
theorem W_4_226 : (Jvm.Cond.instanceMethod ({ cls := "SyncTree$Tree", name := "setEntry", desc := "(IILSyncTree$PathText;I)V" } : Jvm.MethodName)) ∈ lwg := tb_4 226 rfl rfl
theorem W_4_227 : (Jvm.Cond.selects "SyncTree$Tree" ({ cls := "SyncTree$Tree", name := "setEntry", desc := "(IILSyncTree$PathText;I)V" } : Jvm.MethodName) ({ cls := "SyncTree$Tree", name := "setEntry", desc := "(IILSyncTree$PathText;I)V" } : Jvm.MethodName)) ∈ lwg := tb_4 227 rfl rfl
theorem W_4_228 : (Jvm.Cond.code ({ cls := "SyncTree$Tree", name := "setEntry", desc := "(IILSyncTree$PathText;I)V" } : Jvm.MethodName) prog_10_method_51_code (9 : Nat) (Option.none : Option Jvm.ClassFile.FieldType)) ∈ lwg := tb_4 228 rfl rfl
theorem W_4_229 : (Jvm.Cond.methodLink "SyncTreeLaw" (125 : Nat) ({ cls := "SyncTreeLaw", name := "mkdir", desc := "(LSyncTree;[J)I" } : Jvm.MethodName)) ∈ lwg := tb_4 229 rfl rfl
theorem W_4_230 : (Jvm.Cond.static ({ cls := "SyncTreeLaw", name := "mkdir", desc := "(LSyncTree;[J)I" } : Jvm.MethodName)) ∈ lwg := tb_4 230 rfl rfl
theorem W_4_231 : (Jvm.Cond.codeWith ({ cls := "SyncTreeLaw", name := "mkdir", desc := "(LSyncTree;[J)I" } : Jvm.MethodName) method_4_code (3 : Nat) (Option.some Jvm.ClassFile.FieldType.int) [((0 : Nat), (8 : Nat), (11 : Nat), (13 : Nat))]) ∈ lwg := tb_4 231 rfl rfl
theorem W_4_232 : (Jvm.Cond.methodLink "SyncTreeLaw" (15 : Nat) ({ cls := "SyncTree", name := "mkdir", desc := "()I" } : Jvm.MethodName)) ∈ lwg := tb_4 232 rfl rfl
theorem W_4_233 : (Jvm.Cond.instanceMethod ({ cls := "SyncTree", name := "mkdir", desc := "()I" } : Jvm.MethodName)) ∈ lwg := tb_4 233 rfl rfl
theorem W_4_234 : (Jvm.Cond.selects "SyncTree" ({ cls := "SyncTree", name := "mkdir", desc := "()I" } : Jvm.MethodName) ({ cls := "SyncTree", name := "mkdir", desc := "()I" } : Jvm.MethodName)) ∈ lwg := tb_4 234 rfl rfl
theorem W_4_235 : (Jvm.Cond.code ({ cls := "SyncTree", name := "mkdir", desc := "()I" } : Jvm.MethodName) prog_1_method_7_code (1 : Nat) (Option.some Jvm.ClassFile.FieldType.int)) ∈ lwg := tb_4 235 rfl rfl
theorem W_4_236 : (Jvm.Cond.methodLink "SyncTreeLaw" (128 : Nat) ({ cls := "SyncTreeLaw", name := "symlink", desc := "(LSyncTree;[J)I" } : Jvm.MethodName)) ∈ lwg := tb_4 236 rfl rfl
theorem W_4_237 : (Jvm.Cond.static ({ cls := "SyncTreeLaw", name := "symlink", desc := "(LSyncTree;[J)I" } : Jvm.MethodName)) ∈ lwg := tb_4 237 rfl rfl
theorem W_4_238 : (Jvm.Cond.codeWith ({ cls := "SyncTreeLaw", name := "symlink", desc := "(LSyncTree;[J)I" } : Jvm.MethodName) method_5_code (3 : Nat) (Option.some Jvm.ClassFile.FieldType.int) [((0 : Nat), (8 : Nat), (11 : Nat), (13 : Nat))]) ∈ lwg := tb_4 238 rfl rfl
theorem W_4_239 : (Jvm.Cond.methodLink "SyncTreeLaw" (18 : Nat) ({ cls := "SyncTree", name := "symlink", desc := "()I" } : Jvm.MethodName)) ∈ lwg := tb_4 239 rfl rfl
theorem W_5_0 : (Jvm.Cond.instanceMethod ({ cls := "SyncTree", name := "symlink", desc := "()I" } : Jvm.MethodName)) ∈ lwg := tb_5 0 rfl rfl
theorem W_5_1 : (Jvm.Cond.selects "SyncTree" ({ cls := "SyncTree", name := "symlink", desc := "()I" } : Jvm.MethodName) ({ cls := "SyncTree", name := "symlink", desc := "()I" } : Jvm.MethodName)) ∈ lwg := tb_5 1 rfl rfl
theorem W_5_2 : (Jvm.Cond.code ({ cls := "SyncTree", name := "symlink", desc := "()I" } : Jvm.MethodName) prog_1_method_8_code (1 : Nat) (Option.some Jvm.ClassFile.FieldType.int)) ∈ lwg := tb_5 2 rfl rfl
theorem W_5_3 : (Jvm.Cond.methodLink "SyncTreeLaw" (131 : Nat) ({ cls := "SyncTreeLaw", name := "link", desc := "(LSyncTree;[J)I" } : Jvm.MethodName)) ∈ lwg := tb_5 3 rfl rfl
theorem W_5_4 : (Jvm.Cond.static ({ cls := "SyncTreeLaw", name := "link", desc := "(LSyncTree;[J)I" } : Jvm.MethodName)) ∈ lwg := tb_5 4 rfl rfl
theorem W_5_5 : (Jvm.Cond.codeWith ({ cls := "SyncTreeLaw", name := "link", desc := "(LSyncTree;[J)I" } : Jvm.MethodName) method_6_code (3 : Nat) (Option.some Jvm.ClassFile.FieldType.int) [((0 : Nat), (8 : Nat), (11 : Nat), (13 : Nat))]) ∈ lwg := tb_5 5 rfl rfl
theorem W_5_6 : (Jvm.Cond.methodLink "SyncTreeLaw" (21 : Nat) ({ cls := "SyncTree", name := "link", desc := "()I" } : Jvm.MethodName)) ∈ lwg := tb_5 6 rfl rfl
theorem W_5_7 : (Jvm.Cond.instanceMethod ({ cls := "SyncTree", name := "link", desc := "()I" } : Jvm.MethodName)) ∈ lwg := tb_5 7 rfl rfl
theorem W_5_8 : (Jvm.Cond.selects "SyncTree" ({ cls := "SyncTree", name := "link", desc := "()I" } : Jvm.MethodName) ({ cls := "SyncTree", name := "link", desc := "()I" } : Jvm.MethodName)) ∈ lwg := tb_5 8 rfl rfl
theorem W_5_9 : (Jvm.Cond.code ({ cls := "SyncTree", name := "link", desc := "()I" } : Jvm.MethodName) prog_1_method_11_code (4 : Nat) (Option.some Jvm.ClassFile.FieldType.int)) ∈ lwg := tb_5 9 rfl rfl
theorem W_5_10 : (Jvm.Cond.methodLink "SyncTree" (164 : Nat) ({ cls := "SyncTree$Walker", name := "walkWhole", desc := "(LSyncTree$PathText;Z)I" } : Jvm.MethodName)) ∈ lwg := tb_5 10 rfl rfl
theorem W_5_11 : (Jvm.Cond.instanceMethod ({ cls := "SyncTree$Walker", name := "walkWhole", desc := "(LSyncTree$PathText;Z)I" } : Jvm.MethodName)) ∈ lwg := tb_5 11 rfl rfl
theorem W_5_12 : (Jvm.Cond.selects "SyncTree$Walker" ({ cls := "SyncTree$Walker", name := "walkWhole", desc := "(LSyncTree$PathText;Z)I" } : Jvm.MethodName) ({ cls := "SyncTree$Walker", name := "walkWhole", desc := "(LSyncTree$PathText;Z)I" } : Jvm.MethodName)) ∈ lwg := tb_5 12 rfl rfl
theorem W_5_13 : (Jvm.Cond.code ({ cls := "SyncTree$Walker", name := "walkWhole", desc := "(LSyncTree$PathText;Z)I" } : Jvm.MethodName) prog_11_method_2_code (3 : Nat) (Option.some Jvm.ClassFile.FieldType.int)) ∈ lwg := tb_5 13 rfl rfl
theorem W_5_14 : (Jvm.Cond.methodLink "SyncTree" (168 : Nat) ({ cls := "SyncTree$Tree", name := "kind", desc := "(I)I" } : Jvm.MethodName)) ∈ lwg := tb_5 14 rfl rfl
theorem W_5_15 : (Jvm.Cond.methodLink "SyncTree" (172 : Nat) ({ cls := "SyncTree$Tree", name := "names", desc := "(I)I" } : Jvm.MethodName)) ∈ lwg := tb_5 15 rfl rfl
theorem W_5_16 : (Jvm.Cond.methodLink "SyncTree" (175 : Nat) ({ cls := "SyncTree$Tree", name := "setNames", desc := "(II)V" } : Jvm.MethodName)) ∈ lwg := tb_5 16 rfl rfl
theorem W_5_17 : (Jvm.Cond.instanceMethod ({ cls := "SyncTree$Tree", name := "setNames", desc := "(II)V" } : Jvm.MethodName)) ∈ lwg := tb_5 17 rfl rfl
theorem W_5_18 : (Jvm.Cond.selects "SyncTree$Tree" ({ cls := "SyncTree$Tree", name := "setNames", desc := "(II)V" } : Jvm.MethodName) ({ cls := "SyncTree$Tree", name := "setNames", desc := "(II)V" } : Jvm.MethodName)) ∈ lwg := tb_5 18 rfl rfl
theorem W_5_19 : (Jvm.Cond.code ({ cls := "SyncTree$Tree", name := "setNames", desc := "(II)V" } : Jvm.MethodName) prog_10_method_11_code (3 : Nat) (Option.none : Option Jvm.ClassFile.FieldType)) ∈ lwg := tb_5 19 rfl rfl
theorem W_5_20 : (Jvm.Cond.methodLink "SyncTree$Tree" (44 : Nat) ({ cls := "java/lang/Math", name := "max", desc := "(II)I" } : Jvm.MethodName)) ∈ lwg := tb_5 20 rfl rfl
theorem W_5_21 : (Jvm.Cond.methodLink "SyncTreeLaw" (134 : Nat) ({ cls := "SyncTreeLaw", name := "unlink", desc := "(LSyncTree;[J)I" } : Jvm.MethodName)) ∈ lwg := tb_5 21 rfl rfl
theorem W_5_22 : (Jvm.Cond.static ({ cls := "SyncTreeLaw", name := "unlink", desc := "(LSyncTree;[J)I" } : Jvm.MethodName)) ∈ lwg := tb_5 22 rfl rfl
theorem W_5_23 : (Jvm.Cond.codeWith ({ cls := "SyncTreeLaw", name := "unlink", desc := "(LSyncTree;[J)I" } : Jvm.MethodName) method_7_code (3 : Nat) (Option.some Jvm.ClassFile.FieldType.int) [((0 : Nat), (8 : Nat), (11 : Nat), (13 : Nat))]) ∈ lwg := tb_5 23 rfl rfl
theorem W_5_24 : (Jvm.Cond.methodLink "SyncTreeLaw" (24 : Nat) ({ cls := "SyncTree", name := "unlink", desc := "()I" } : Jvm.MethodName)) ∈ lwg := tb_5 24 rfl rfl
theorem W_5_25 : (Jvm.Cond.instanceMethod ({ cls := "SyncTree", name := "unlink", desc := "()I" } : Jvm.MethodName)) ∈ lwg := tb_5 25 rfl rfl
theorem W_5_26 : (Jvm.Cond.selects "SyncTree" ({ cls := "SyncTree", name := "unlink", desc := "()I" } : Jvm.MethodName) ({ cls := "SyncTree", name := "unlink", desc := "()I" } : Jvm.MethodName)) ∈ lwg := tb_5 26 rfl rfl
theorem W_5_27 : (Jvm.Cond.code ({ cls := "SyncTree", name := "unlink", desc := "()I" } : Jvm.MethodName) prog_1_method_12_code (4 : Nat) (Option.some Jvm.ClassFile.FieldType.int)) ∈ lwg := tb_5 27 rfl rfl
theorem W_5_28 : (Jvm.Cond.methodLink "SyncTree" (178 : Nat) ({ cls := "SyncTree", name := "entryOfLast", desc := "(LSyncTree$PathText;)I" } : Jvm.MethodName)) ∈ lwg := tb_5 28 rfl rfl
theorem W_5_30 : (Jvm.Cond.instanceMethod ({ cls := "SyncTree", name := "entryOfLast", desc := "(LSyncTree$PathText;)I" } : Jvm.MethodName)) ∈ lwg := tb_5 30 rfl rfl
theorem W_5_31 : (Jvm.Cond.code ({ cls := "SyncTree", name := "entryOfLast", desc := "(LSyncTree$PathText;)I" } : Jvm.MethodName) prog_1_method_14_code (3 : Nat) (Option.some Jvm.ClassFile.FieldType.int)) ∈ lwg := tb_5 31 rfl rfl
theorem W_5_32 : (Jvm.Cond.methodLink "SyncTree" (184 : Nat) ({ cls := "SyncTree$Tree", name := "nodeAt", desc := "(II)I" } : Jvm.MethodName)) ∈ lwg := tb_5 32 rfl rfl
theorem W_5_33 : (Jvm.Cond.methodLink "SyncTree" (187 : Nat) ({ cls := "SyncTree$Tree", name := "removeEntry", desc := "(II)V" } : Jvm.MethodName)) ∈ lwg := tb_5 33 rfl rfl
theorem W_5_34 : (Jvm.Cond.instanceMethod ({ cls := "SyncTree$Tree", name := "removeEntry", desc := "(II)V" } : Jvm.MethodName)) ∈ lwg := tb_5 34 rfl rfl
theorem W_5_35 : (Jvm.Cond.selects "SyncTree$Tree" ({ cls := "SyncTree$Tree", name := "removeEntry", desc := "(II)V" } : Jvm.MethodName) ({ cls := "SyncTree$Tree", name := "removeEntry", desc := "(II)V" } : Jvm.MethodName)) ∈ lwg := tb_5 35 rfl rfl
theorem W_5_36 : (Jvm.Cond.code ({ cls := "SyncTree$Tree", name := "removeEntry", desc := "(II)V" } : Jvm.MethodName) prog_10_method_52_code (5 : Nat) (Option.none : Option Jvm.ClassFile.FieldType)) ∈ lwg := tb_5 36 rfl rfl
theorem W_5_37 : (Jvm.Cond.methodLink "SyncTree$Tree" (126 : Nat) ({ cls := "SyncTree$Space", name := "isZeroFrom", desc := "(II)Z" } : Jvm.MethodName)) ∈ lwg := tb_5 37 rfl rfl
theorem W_5_38 : (Jvm.Cond.instanceMethod ({ cls := "SyncTree$Space", name := "isZeroFrom", desc := "(II)Z" } : Jvm.MethodName)) ∈ lwg := tb_5 38 rfl rfl
theorem W_5_39 : (Jvm.Cond.selects "SyncTree$Space" ({ cls := "SyncTree$Space", name := "isZeroFrom", desc := "(II)Z" } : Jvm.MethodName) ({ cls := "SyncTree$Space", name := "isZeroFrom", desc := "(II)Z" } : Jvm.MethodName)) ∈ lwg := tb_5 39 rfl rfl
theorem W_5_40 : (Jvm.Cond.code ({ cls := "SyncTree$Space", name := "isZeroFrom", desc := "(II)Z" } : Jvm.MethodName) prog_7_method_17_code (4 : Nat) (Option.some Jvm.ClassFile.FieldType.boolean)) ∈ lwg := tb_5 40 rfl rfl
theorem W_5_41 : (Jvm.Cond.methodLink "SyncTree$Space" (110 : Nat) ({ cls := "SyncTree$Space", name := "octet", desc := "(II)I" } : Jvm.MethodName)) ∈ lwg := tb_5 41 rfl rfl
theorem W_5_42 : (Jvm.Cond.methodLink "SyncTree$Tree" (136 : Nat) ({ cls := "SyncTree$Tree", name := "drop", desc := "(II)V" } : Jvm.MethodName)) ∈ lwg := tb_5 42 rfl rfl
theorem W_5_44 : (Jvm.Cond.instanceMethod ({ cls := "SyncTree$Tree", name := "drop", desc := "(II)V" } : Jvm.MethodName)) ∈ lwg := tb_5 44 rfl rfl
theorem W_5_45 : (Jvm.Cond.code ({ cls := "SyncTree$Tree", name := "drop", desc := "(II)V" } : Jvm.MethodName) prog_10_method_30_code (6 : Nat) (Option.none : Option Jvm.ClassFile.FieldType)) ∈ lwg := tb_5 45 rfl rfl
theorem W_5_46 : (Jvm.Cond.methodLink "SyncTree$Tree" (122 : Nat) ({ cls := "SyncTree$Space", name := "release", desc := "(IZ)V" } : Jvm.MethodName)) ∈ lwg := tb_5 46 rfl rfl
theorem W_5_47 : (Jvm.Cond.instanceMethod ({ cls := "SyncTree$Space", name := "release", desc := "(IZ)V" } : Jvm.MethodName)) ∈ lwg := tb_5 47 rfl rfl
theorem W_5_48 : (Jvm.Cond.selects "SyncTree$Space" ({ cls := "SyncTree$Space", name := "release", desc := "(IZ)V" } : Jvm.MethodName) ({ cls := "SyncTree$Space", name := "release", desc := "(IZ)V" } : Jvm.MethodName)) ∈ lwg := tb_5 48 rfl rfl
theorem W_5_49 : (Jvm.Cond.code ({ cls := "SyncTree$Space", name := "release", desc := "(IZ)V" } : Jvm.MethodName) prog_7_method_25_code (3 : Nat) (Option.none : Option Jvm.ClassFile.FieldType)) ∈ lwg := tb_5 49 rfl rfl
theorem W_5_50 : (Jvm.Cond.methodLink "SyncTree$Space" (129 : Nat) ({ cls := "SyncTree$Space", name := "revoke", desc := "(I)V" } : Jvm.MethodName)) ∈ lwg := tb_5 50 rfl rfl
theorem W_5_52 : (Jvm.Cond.instanceMethod ({ cls := "SyncTree$Space", name := "revoke", desc := "(I)V" } : Jvm.MethodName)) ∈ lwg := tb_5 52 rfl rfl
theorem W_5_53 : (Jvm.Cond.code ({ cls := "SyncTree$Space", name := "revoke", desc := "(I)V" } : Jvm.MethodName) prog_7_method_26_code (2 : Nat) (Option.none : Option Jvm.ClassFile.FieldType)) ∈ lwg := tb_5 53 rfl rfl
theorem W_5_54 : (Jvm.Cond.methodLink "SyncTree$Tree" (130 : Nat) ({ cls := "SyncTree$Tree", name := "dropIfEmpty", desc := "(II)V" } : Jvm.MethodName)) ∈ lwg := tb_5 54 rfl rfl
theorem W_5_56 : (Jvm.Cond.instanceMethod ({ cls := "SyncTree$Tree", name := "dropIfEmpty", desc := "(II)V" } : Jvm.MethodName)) ∈ lwg := tb_5 56 rfl rfl
theorem W_5_57 : (Jvm.Cond.code ({ cls := "SyncTree$Tree", name := "dropIfEmpty", desc := "(II)V" } : Jvm.MethodName) prog_10_method_31_code (4 : Nat) (Option.none : Option Jvm.ClassFile.FieldType)) ∈ lwg := tb_5 57 rfl rfl
theorem W_5_58 : (Jvm.Cond.methodLink "SyncTree" (190 : Nat) ({ cls := "SyncTree", name := "loseName", desc := "(I)V" } : Jvm.MethodName)) ∈ lwg := tb_5 58 rfl rfl
theorem W_5_60 : (Jvm.Cond.instanceMethod ({ cls := "SyncTree", name := "loseName", desc := "(I)V" } : Jvm.MethodName)) ∈ lwg := tb_5 60 rfl rfl
theorem W_5_61 : (Jvm.Cond.code ({ cls := "SyncTree", name := "loseName", desc := "(I)V" } : Jvm.MethodName) prog_1_method_18_code (3 : Nat) (Option.none : Option Jvm.ClassFile.FieldType)) ∈ lwg := tb_5 61 rfl rfl
theorem W_5_62 : (Jvm.Cond.methodLink "SyncTree" (196 : Nat) ({ cls := "SyncTree$Tree", name := "discard", desc := "(I)V" } : Jvm.MethodName)) ∈ lwg := tb_5 62 rfl rfl
theorem W_5_63 : (Jvm.Cond.instanceMethod ({ cls := "SyncTree$Tree", name := "discard", desc := "(I)V" } : Jvm.MethodName)) ∈ lwg := tb_5 63 rfl rfl
theorem W_5_64 : (Jvm.Cond.selects "SyncTree$Tree" ({ cls := "SyncTree$Tree", name := "discard", desc := "(I)V" } : Jvm.MethodName) ({ cls := "SyncTree$Tree", name := "discard", desc := "(I)V" } : Jvm.MethodName)) ∈ lwg := tb_5 64 rfl rfl
theorem W_5_65 : (Jvm.Cond.code ({ cls := "SyncTree$Tree", name := "discard", desc := "(I)V" } : Jvm.MethodName) prog_10_method_23_code (3 : Nat) (Option.none : Option Jvm.ClassFile.FieldType)) ∈ lwg := tb_5 65 rfl rfl
theorem W_5_66 : (Jvm.Cond.methodLink "SyncTree$Tree" (95 : Nat) ({ cls := "SyncTree$Tree", name := "resize", desc := "(II)V" } : Jvm.MethodName)) ∈ lwg := tb_5 66 rfl rfl
theorem W_5_67 : (Jvm.Cond.instanceMethod ({ cls := "SyncTree$Tree", name := "resize", desc := "(II)V" } : Jvm.MethodName)) ∈ lwg := tb_5 67 rfl rfl
theorem W_5_68 : (Jvm.Cond.selects "SyncTree$Tree" ({ cls := "SyncTree$Tree", name := "resize", desc := "(II)V" } : Jvm.MethodName) ({ cls := "SyncTree$Tree", name := "resize", desc := "(II)V" } : Jvm.MethodName)) ∈ lwg := tb_5 68 rfl rfl
theorem W_5_69 : (Jvm.Cond.code ({ cls := "SyncTree$Tree", name := "resize", desc := "(II)V" } : Jvm.MethodName) prog_10_method_32_code (6 : Nat) (Option.none : Option Jvm.ClassFile.FieldType)) ∈ lwg := tb_5 69 rfl rfl
theorem W_5_70 : (Jvm.Cond.methodLink "SyncTree$Tree" (133 : Nat) ({ cls := "SyncTree$Tree", name := "zeroBehind", desc := "(II)V" } : Jvm.MethodName)) ∈ lwg := tb_5 70 rfl rfl
theorem W_5_72 : (Jvm.Cond.instanceMethod ({ cls := "SyncTree$Tree", name := "zeroBehind", desc := "(II)V" } : Jvm.MethodName)) ∈ lwg := tb_5 72 rfl rfl
theorem W_5_73 : (Jvm.Cond.code ({ cls := "SyncTree$Tree", name := "zeroBehind", desc := "(II)V" } : Jvm.MethodName) prog_10_method_33_code (5 : Nat) (Option.none : Option Jvm.ClassFile.FieldType)) ∈ lwg := tb_5 73 rfl rfl
theorem W_5_74 : (Jvm.Cond.methodLink "SyncTree$Tree" (139 : Nat) ({ cls := "SyncTree$Space", name := "setSpan", desc := "(IIII)V" } : Jvm.MethodName)) ∈ lwg := tb_5 74 rfl rfl
theorem W_5_75 : (Jvm.Cond.instanceMethod ({ cls := "SyncTree$Space", name := "setSpan", desc := "(IIII)V" } : Jvm.MethodName)) ∈ lwg := tb_5 75 rfl rfl
theorem W_5_76 : (Jvm.Cond.selects "SyncTree$Space" ({ cls := "SyncTree$Space", name := "setSpan", desc := "(IIII)V" } : Jvm.MethodName) ({ cls := "SyncTree$Space", name := "setSpan", desc := "(IIII)V" } : Jvm.MethodName)) ∈ lwg := tb_5 76 rfl rfl
theorem W_5_77 : (Jvm.Cond.code ({ cls := "SyncTree$Space", name := "setSpan", desc := "(IIII)V" } : Jvm.MethodName) prog_7_method_16_code (9 : Nat) (Option.none : Option Jvm.ClassFile.FieldType)) ∈ lwg := tb_5 77 rfl rfl
theorem W_5_78 : (Jvm.Cond.constantLong "SyncTree$Space" (104 : Nat) (72340172838076673 : Int64)) ∈ lwg := tb_5 78 rfl rfl
theorem W_5_79 : (Jvm.Cond.methodLink "SyncTree$Space" (106 : Nat) ({ cls := "SyncTree$Space", name := "setOctet", desc := "(III)V" } : Jvm.MethodName)) ∈ lwg := tb_5 79 rfl rfl
theorem W_5_80 : (Jvm.Cond.methodLink "SyncTree$Tree" (143 : Nat) ({ cls := "SyncTree$Space", name := "soil", desc := "(I)V" } : Jvm.MethodName)) ∈ lwg := tb_5 80 rfl rfl
theorem W_5_81 : (Jvm.Cond.instanceMethod ({ cls := "SyncTree$Space", name := "soil", desc := "(I)V" } : Jvm.MethodName)) ∈ lwg := tb_5 81 rfl rfl
theorem W_5_82 : (Jvm.Cond.selects "SyncTree$Space" ({ cls := "SyncTree$Space", name := "soil", desc := "(I)V" } : Jvm.MethodName) ({ cls := "SyncTree$Space", name := "soil", desc := "(I)V" } : Jvm.MethodName)) ∈ lwg := tb_5 82 rfl rfl
theorem W_5_83 : (Jvm.Cond.code ({ cls := "SyncTree$Space", name := "soil", desc := "(I)V" } : Jvm.MethodName) prog_7_method_21_code (2 : Nat) (Option.none : Option Jvm.ClassFile.FieldType)) ∈ lwg := tb_5 83 rfl rfl
theorem W_5_84 : (Jvm.Cond.methodLink "SyncTree" (218 : Nat) ({ cls := "SyncTree", name := "isHeld", desc := "(I)Z" } : Jvm.MethodName)) ∈ lwg := tb_5 84 rfl rfl
theorem W_5_86 : (Jvm.Cond.instanceMethod ({ cls := "SyncTree", name := "isHeld", desc := "(I)Z" } : Jvm.MethodName)) ∈ lwg := tb_5 86 rfl rfl
theorem W_5_87 : (Jvm.Cond.code ({ cls := "SyncTree", name := "isHeld", desc := "(I)Z" } : Jvm.MethodName) prog_1_method_19_code (3 : Nat) (Option.some Jvm.ClassFile.FieldType.boolean)) ∈ lwg := tb_5 87 rfl rfl
theorem W_5_88 : (Jvm.Cond.methodLink "SyncTreeLaw" (137 : Nat) ({ cls := "SyncTreeLaw", name := "rmdir", desc := "(LSyncTree;[J)I" } : Jvm.MethodName)) ∈ lwg := tb_5 88 rfl rfl
theorem W_5_89 : (Jvm.Cond.static ({ cls := "SyncTreeLaw", name := "rmdir", desc := "(LSyncTree;[J)I" } : Jvm.MethodName)) ∈ lwg := tb_5 89 rfl rfl
theorem W_5_90 : (Jvm.Cond.codeWith ({ cls := "SyncTreeLaw", name := "rmdir", desc := "(LSyncTree;[J)I" } : Jvm.MethodName) method_8_code (3 : Nat) (Option.some Jvm.ClassFile.FieldType.int) [((0 : Nat), (8 : Nat), (11 : Nat), (13 : Nat))]) ∈ lwg := tb_5 90 rfl rfl
theorem W_5_91 : (Jvm.Cond.methodLink "SyncTreeLaw" (27 : Nat) ({ cls := "SyncTree", name := "rmdir", desc := "()I" } : Jvm.MethodName)) ∈ lwg := tb_5 91 rfl rfl
theorem W_5_92 : (Jvm.Cond.instanceMethod ({ cls := "SyncTree", name := "rmdir", desc := "()I" } : Jvm.MethodName)) ∈ lwg := tb_5 92 rfl rfl
theorem W_5_93 : (Jvm.Cond.selects "SyncTree" ({ cls := "SyncTree", name := "rmdir", desc := "()I" } : Jvm.MethodName) ({ cls := "SyncTree", name := "rmdir", desc := "()I" } : Jvm.MethodName)) ∈ lwg := tb_5 93 rfl rfl
theorem W_5_94 : (Jvm.Cond.code ({ cls := "SyncTree", name := "rmdir", desc := "()I" } : Jvm.MethodName) prog_1_method_13_code (3 : Nat) (Option.some Jvm.ClassFile.FieldType.int)) ∈ lwg := tb_5 94 rfl rfl
theorem W_5_95 : (Jvm.Cond.methodLink "SyncTree" (193 : Nat) ({ cls := "SyncTree$Tree", name := "countEntries", desc := "(I)I" } : Jvm.MethodName)) ∈ lwg := tb_5 95 rfl rfl
theorem W_5_96 : (Jvm.Cond.instanceMethod ({ cls := "SyncTree$Tree", name := "countEntries", desc := "(I)I" } : Jvm.MethodName)) ∈ lwg := tb_5 96 rfl rfl
theorem W_5_97 : (Jvm.Cond.selects "SyncTree$Tree" ({ cls := "SyncTree$Tree", name := "countEntries", desc := "(I)I" } : Jvm.MethodName) ({ cls := "SyncTree$Tree", name := "countEntries", desc := "(I)I" } : Jvm.MethodName)) ∈ lwg := tb_5 97 rfl rfl
theorem W_5_98 : (Jvm.Cond.code ({ cls := "SyncTree$Tree", name := "countEntries", desc := "(I)I" } : Jvm.MethodName) prog_10_method_42_code (5 : Nat) (Option.some Jvm.ClassFile.FieldType.int)) ∈ lwg := tb_5 98 rfl rfl
theorem W_5_99 : (Jvm.Cond.methodLink "SyncTreeLaw" (140 : Nat) ({ cls := "SyncTreeLaw", name := "rename", desc := "(LSyncTree;[J)I" } : Jvm.MethodName)) ∈ lwg := tb_5 99 rfl rfl
theorem W_5_100 : (Jvm.Cond.static ({ cls := "SyncTreeLaw", name := "rename", desc := "(LSyncTree;[J)I" } : Jvm.MethodName)) ∈ lwg := tb_5 100 rfl rfl
theorem W_5_101 : (Jvm.Cond.codeWith ({ cls := "SyncTreeLaw", name := "rename", desc := "(LSyncTree;[J)I" } : Jvm.MethodName) method_9_code (3 : Nat) (Option.some Jvm.ClassFile.FieldType.int) [((0 : Nat), (8 : Nat), (11 : Nat), (13 : Nat))]) ∈ lwg := tb_5 101 rfl rfl
theorem W_5_102 : (Jvm.Cond.methodLink "SyncTreeLaw" (30 : Nat) ({ cls := "SyncTree", name := "rename", desc := "()I" } : Jvm.MethodName)) ∈ lwg := tb_5 102 rfl rfl
theorem W_5_103 : (Jvm.Cond.instanceMethod ({ cls := "SyncTree", name := "rename", desc := "()I" } : Jvm.MethodName)) ∈ lwg := tb_5 103 rfl rfl
theorem W_5_104 : (Jvm.Cond.selects "SyncTree" ({ cls := "SyncTree", name := "rename", desc := "()I" } : Jvm.MethodName) ({ cls := "SyncTree", name := "rename", desc := "()I" } : Jvm.MethodName)) ∈ lwg := tb_5 104 rfl rfl
theorem W_5_105 : (Jvm.Cond.code ({ cls := "SyncTree", name := "rename", desc := "()I" } : Jvm.MethodName) prog_1_method_15_code (8 : Nat) (Option.some Jvm.ClassFile.FieldType.int)) ∈ lwg := tb_5 105 rfl rfl
theorem W_5_106 : (Jvm.Cond.methodLink "SyncTree" (199 : Nat) ({ cls := "SyncTree", name := "refuseMove", desc := "(III)I" } : Jvm.MethodName)) ∈ lwg := tb_5 106 rfl rfl
theorem W_5_108 : (Jvm.Cond.instanceMethod ({ cls := "SyncTree", name := "refuseMove", desc := "(III)I" } : Jvm.MethodName)) ∈ lwg := tb_5 108 rfl rfl
theorem W_5_109 : (Jvm.Cond.code ({ cls := "SyncTree", name := "refuseMove", desc := "(III)I" } : Jvm.MethodName) prog_1_method_16_code (4 : Nat) (Option.some Jvm.ClassFile.FieldType.int)) ∈ lwg := tb_5 109 rfl rfl
theorem W_5_110 : (Jvm.Cond.methodLink "SyncTree" (211 : Nat) ({ cls := "SyncTree$Tree", name := "isWithin", desc := "(II)Z" } : Jvm.MethodName)) ∈ lwg := tb_5 110 rfl rfl
theorem W_5_111 : (Jvm.Cond.instanceMethod ({ cls := "SyncTree$Tree", name := "isWithin", desc := "(II)Z" } : Jvm.MethodName)) ∈ lwg := tb_5 111 rfl rfl
theorem W_5_112 : (Jvm.Cond.selects "SyncTree$Tree" ({ cls := "SyncTree$Tree", name := "isWithin", desc := "(II)Z" } : Jvm.MethodName) ({ cls := "SyncTree$Tree", name := "isWithin", desc := "(II)Z" } : Jvm.MethodName)) ∈ lwg := tb_5 112 rfl rfl
theorem W_5_113 : (Jvm.Cond.code ({ cls := "SyncTree$Tree", name := "isWithin", desc := "(II)Z" } : Jvm.MethodName) prog_10_method_22_code (5 : Nat) (Option.some Jvm.ClassFile.FieldType.boolean)) ∈ lwg := tb_5 113 rfl rfl
theorem W_5_114 : (Jvm.Cond.methodLink "SyncTree" (203 : Nat) ({ cls := "SyncTree$Tree", name := "setEntry", desc := "(IILSyncTree$PathText;I)V" } : Jvm.MethodName)) ∈ lwg := tb_5 114 rfl rfl
theorem W_5_115 : (Jvm.Cond.methodLink "SyncTree" (207 : Nat) ({ cls := "SyncTree", name := "finishMove", desc := "(IIII)V" } : Jvm.MethodName)) ∈ lwg := tb_5 115 rfl rfl
theorem W_5_117 : (Jvm.Cond.instanceMethod ({ cls := "SyncTree", name := "finishMove", desc := "(IIII)V" } : Jvm.MethodName)) ∈ lwg := tb_5 117 rfl rfl
theorem W_5_118 : (Jvm.Cond.code ({ cls := "SyncTree", name := "finishMove", desc := "(IIII)V" } : Jvm.MethodName) prog_1_method_17_code (5 : Nat) (Option.none : Option Jvm.ClassFile.FieldType)) ∈ lwg := tb_5 118 rfl rfl
theorem W_5_119 : (Jvm.Cond.methodLink "SyncTree" (215 : Nat) ({ cls := "SyncTree$Tree", name := "setParent", desc := "(II)V" } : Jvm.MethodName)) ∈ lwg := tb_5 119 rfl rfl
theorem W_5_120 : (Jvm.Cond.instanceMethod ({ cls := "SyncTree$Tree", name := "setParent", desc := "(II)V" } : Jvm.MethodName)) ∈ lwg := tb_5 120 rfl rfl
theorem W_5_121 : (Jvm.Cond.selects "SyncTree$Tree" ({ cls := "SyncTree$Tree", name := "setParent", desc := "(II)V" } : Jvm.MethodName) ({ cls := "SyncTree$Tree", name := "setParent", desc := "(II)V" } : Jvm.MethodName)) ∈ lwg := tb_5 121 rfl rfl
theorem W_5_122 : (Jvm.Cond.code ({ cls := "SyncTree$Tree", name := "setParent", desc := "(II)V" } : Jvm.MethodName) prog_10_method_12_code (3 : Nat) (Option.none : Option Jvm.ClassFile.FieldType)) ∈ lwg := tb_5 122 rfl rfl
theorem W_5_123 : (Jvm.Cond.methodLink "SyncTreeLaw" (143 : Nat) ({ cls := "SyncTreeLaw", name := "open", desc := "(LSyncTree;[J)I" } : Jvm.MethodName)) ∈ lwg := tb_5 123 rfl rfl
theorem W_5_124 : (Jvm.Cond.static ({ cls := "SyncTreeLaw", name := "open", desc := "(LSyncTree;[J)I" } : Jvm.MethodName)) ∈ lwg := tb_5 124 rfl rfl
theorem W_5_125 : (Jvm.Cond.codeWith ({ cls := "SyncTreeLaw", name := "open", desc := "(LSyncTree;[J)I" } : Jvm.MethodName) method_10_code (3 : Nat) (Option.some Jvm.ClassFile.FieldType.int) [((0 : Nat), (8 : Nat), (11 : Nat), (13 : Nat))]) ∈ lwg := tb_5 125 rfl rfl
theorem W_5_126 : (Jvm.Cond.methodLink "SyncTreeLaw" (33 : Nat) ({ cls := "SyncTree", name := "open", desc := "()I" } : Jvm.MethodName)) ∈ lwg := tb_5 126 rfl rfl
theorem W_5_127 : (Jvm.Cond.instanceMethod ({ cls := "SyncTree", name := "open", desc := "()I" } : Jvm.MethodName)) ∈ lwg := tb_5 127 rfl rfl
theorem W_5_128 : (Jvm.Cond.selects "SyncTree" ({ cls := "SyncTree", name := "open", desc := "()I" } : Jvm.MethodName) ({ cls := "SyncTree", name := "open", desc := "()I" } : Jvm.MethodName)) ∈ lwg := tb_5 128 rfl rfl
theorem W_5_129 : (Jvm.Cond.code ({ cls := "SyncTree", name := "open", desc := "()I" } : Jvm.MethodName) prog_1_method_20_code (3 : Nat) (Option.some Jvm.ClassFile.FieldType.int)) ∈ lwg := tb_5 129 rfl rfl
theorem W_5_130 : (Jvm.Cond.methodLink "SyncTree" (221 : Nat) ({ cls := "SyncTree$Disk", name := "demandPower", desc := "()V" } : Jvm.MethodName)) ∈ lwg := tb_5 130 rfl rfl
theorem W_5_131 : (Jvm.Cond.methodLink "SyncTreeLaw" (146 : Nat) ({ cls := "SyncTreeLaw", name := "close", desc := "(LSyncTree;I[J)I" } : Jvm.MethodName)) ∈ lwg := tb_5 131 rfl rfl
theorem W_5_132 : (Jvm.Cond.static ({ cls := "SyncTreeLaw", name := "close", desc := "(LSyncTree;I[J)I" } : Jvm.MethodName)) ∈ lwg := tb_5 132 rfl rfl
theorem W_5_133 : (Jvm.Cond.codeWith ({ cls := "SyncTreeLaw", name := "close", desc := "(LSyncTree;I[J)I" } : Jvm.MethodName) method_11_code (4 : Nat) (Option.some Jvm.ClassFile.FieldType.int) [((0 : Nat), (9 : Nat), (12 : Nat), (13 : Nat))]) ∈ lwg := tb_5 133 rfl rfl
theorem W_5_134 : (Jvm.Cond.methodLink "SyncTreeLaw" (36 : Nat) ({ cls := "SyncTree", name := "close", desc := "(I)I" } : Jvm.MethodName)) ∈ lwg := tb_5 134 rfl rfl
theorem W_5_135 : (Jvm.Cond.instanceMethod ({ cls := "SyncTree", name := "close", desc := "(I)I" } : Jvm.MethodName)) ∈ lwg := tb_5 135 rfl rfl
theorem W_5_136 : (Jvm.Cond.selects "SyncTree" ({ cls := "SyncTree", name := "close", desc := "(I)I" } : Jvm.MethodName) ({ cls := "SyncTree", name := "close", desc := "(I)I" } : Jvm.MethodName)) ∈ lwg := tb_5 136 rfl rfl
theorem W_5_137 : (Jvm.Cond.code ({ cls := "SyncTree", name := "close", desc := "(I)I" } : Jvm.MethodName) prog_1_method_22_code (3 : Nat) (Option.some Jvm.ClassFile.FieldType.int)) ∈ lwg := tb_5 137 rfl rfl
theorem W_5_138 : (Jvm.Cond.methodLink "SyncTree" (224 : Nat) ({ cls := "SyncTree", name := "fileOf", desc := "(I)I" } : Jvm.MethodName)) ∈ lwg := tb_5 138 rfl rfl
theorem W_5_140 : (Jvm.Cond.instanceMethod ({ cls := "SyncTree", name := "fileOf", desc := "(I)I" } : Jvm.MethodName)) ∈ lwg := tb_5 140 rfl rfl
theorem W_5_141 : (Jvm.Cond.code ({ cls := "SyncTree", name := "fileOf", desc := "(I)I" } : Jvm.MethodName) prog_1_method_21_code (2 : Nat) (Option.some Jvm.ClassFile.FieldType.int)) ∈ lwg := tb_5 141 rfl rfl
theorem W_5_142 : (Jvm.Cond.methodLink "SyncTreeLaw" (150 : Nat) ({ cls := "SyncTreeLaw", name := "write", desc := "(LSyncTree;III[J)I" } : Jvm.MethodName)) ∈ lwg := tb_5 142 rfl rfl
theorem W_5_143 : (Jvm.Cond.static ({ cls := "SyncTreeLaw", name := "write", desc := "(LSyncTree;III[J)I" } : Jvm.MethodName)) ∈ lwg := tb_5 143 rfl rfl
theorem W_5_144 : (Jvm.Cond.codeWith ({ cls := "SyncTreeLaw", name := "write", desc := "(LSyncTree;III[J)I" } : Jvm.MethodName) method_12_code (6 : Nat) (Option.some Jvm.ClassFile.FieldType.int) [((0 : Nat), (12 : Nat), (15 : Nat), (13 : Nat))]) ∈ lwg := tb_5 144 rfl rfl
theorem W_5_145 : (Jvm.Cond.methodLink "SyncTreeLaw" (40 : Nat) ({ cls := "SyncTree", name := "write", desc := "(III)I" } : Jvm.MethodName)) ∈ lwg := tb_5 145 rfl rfl
theorem W_5_146 : (Jvm.Cond.instanceMethod ({ cls := "SyncTree", name := "write", desc := "(III)I" } : Jvm.MethodName)) ∈ lwg := tb_5 146 rfl rfl
theorem W_5_147 : (Jvm.Cond.selects "SyncTree" ({ cls := "SyncTree", name := "write", desc := "(III)I" } : Jvm.MethodName) ({ cls := "SyncTree", name := "write", desc := "(III)I" } : Jvm.MethodName)) ∈ lwg := tb_5 147 rfl rfl
theorem W_5_148 : (Jvm.Cond.code ({ cls := "SyncTree", name := "write", desc := "(III)I" } : Jvm.MethodName) prog_1_method_23_code (6 : Nat) (Option.some Jvm.ClassFile.FieldType.int)) ∈ lwg := tb_5 148 rfl rfl
theorem W_5_149 : (Jvm.Cond.methodLink "SyncTree" (227 : Nat) ({ cls := "SyncTree", name := "makeReady", desc := "(III)I" } : Jvm.MethodName)) ∈ lwg := tb_5 149 rfl rfl
theorem W_5_151 : (Jvm.Cond.instanceMethod ({ cls := "SyncTree", name := "makeReady", desc := "(III)I" } : Jvm.MethodName)) ∈ lwg := tb_5 151 rfl rfl
theorem W_5_152 : (Jvm.Cond.code ({ cls := "SyncTree", name := "makeReady", desc := "(III)I" } : Jvm.MethodName) prog_1_method_25_code (7 : Nat) (Option.some Jvm.ClassFile.FieldType.int)) ∈ lwg := tb_5 152 rfl rfl
theorem W_5_153 : (Jvm.Cond.constantLong "SyncTree" (237 : Nat) (272384 : Int64)) ∈ lwg := tb_5 153 rfl rfl
theorem W_5_154 : (Jvm.Cond.methodLink "SyncTree" (239 : Nat) ({ cls := "SyncTree$Tree", name := "needs", desc := "(III)I" } : Jvm.MethodName)) ∈ lwg := tb_5 154 rfl rfl
theorem W_5_155 : (Jvm.Cond.methodLink "SyncTree" (245 : Nat) ({ cls := "SyncTree$Tree", name := "size", desc := "(I)I" } : Jvm.MethodName)) ∈ lwg := tb_5 155 rfl rfl
theorem W_5_156 : (Jvm.Cond.methodLink "SyncTree" (248 : Nat) ({ cls := "SyncTree$Tree", name := "resize", desc := "(II)V" } : Jvm.MethodName)) ∈ lwg := tb_5 156 rfl rfl
theorem W_5_157 : (Jvm.Cond.methodLink "SyncTree" (251 : Nat) ({ cls := "SyncTree$Tree", name := "obtain", desc := "(II)V" } : Jvm.MethodName)) ∈ lwg := tb_5 157 rfl rfl
theorem W_5_158 : (Jvm.Cond.methodLink "SyncTree" (230 : Nat) ({ cls := "SyncTree$Tree", name := "storeTape", desc := "(IIILSyncTree$Tape;)V" } : Jvm.MethodName)) ∈ lwg := tb_5 158 rfl rfl
theorem W_5_159 : (Jvm.Cond.instanceMethod ({ cls := "SyncTree$Tree", name := "storeTape", desc := "(IIILSyncTree$Tape;)V" } : Jvm.MethodName)) ∈ lwg := tb_5 159 rfl rfl
theorem W_5_160 : (Jvm.Cond.selects "SyncTree$Tree" ({ cls := "SyncTree$Tree", name := "storeTape", desc := "(IIILSyncTree$Tape;)V" } : Jvm.MethodName) ({ cls := "SyncTree$Tree", name := "storeTape", desc := "(IIILSyncTree$Tape;)V" } : Jvm.MethodName)) ∈ lwg := tb_5 160 rfl rfl
theorem W_5_161 : (Jvm.Cond.code ({ cls := "SyncTree$Tree", name := "storeTape", desc := "(IIILSyncTree$Tape;)V" } : Jvm.MethodName) prog_10_method_34_code (8 : Nat) (Option.none : Option Jvm.ClassFile.FieldType)) ∈ lwg := tb_5 161 rfl rfl
theorem W_5_162 : (Jvm.Cond.methodLink "SyncTree$Tree" (146 : Nat) ({ cls := "SyncTree$Tape", name := "octet", desc := "(I)B" } : Jvm.MethodName)) ∈ lwg := tb_5 162 rfl rfl
theorem W_5_163 : (Jvm.Cond.methodLink "SyncTreeLaw" (154 : Nat) ({ cls := "SyncTreeLaw", name := "fill", desc := "(LSyncTree;IIII[J)I" } : Jvm.MethodName)) ∈ lwg := tb_5 163 rfl rfl
theorem W_5_164 : (Jvm.Cond.static ({ cls := "SyncTreeLaw", name := "fill", desc := "(LSyncTree;IIII[J)I" } : Jvm.MethodName)) ∈ lwg := tb_5 164 rfl rfl
theorem W_5_165 : (Jvm.Cond.codeWith ({ cls := "SyncTreeLaw", name := "fill", desc := "(LSyncTree;IIII[J)I" } : Jvm.MethodName) method_13_code (7 : Nat) (Option.some Jvm.ClassFile.FieldType.int) [((0 : Nat), (14 : Nat), (17 : Nat), (13 : Nat))]) ∈ lwg := tb_5 165 rfl rfl
theorem W_5_166 : (Jvm.Cond.methodLink "SyncTreeLaw" (44 : Nat) ({ cls := "SyncTree", name := "fill", desc := "(IIII)I" } : Jvm.MethodName)) ∈ lwg := tb_5 166 rfl rfl
theorem W_5_167 : (Jvm.Cond.instanceMethod ({ cls := "SyncTree", name := "fill", desc := "(IIII)I" } : Jvm.MethodName)) ∈ lwg := tb_5 167 rfl rfl
theorem W_5_168 : (Jvm.Cond.selects "SyncTree" ({ cls := "SyncTree", name := "fill", desc := "(IIII)I" } : Jvm.MethodName) ({ cls := "SyncTree", name := "fill", desc := "(IIII)I" } : Jvm.MethodName)) ∈ lwg := tb_5 168 rfl rfl
theorem W_5_169 : (Jvm.Cond.code ({ cls := "SyncTree", name := "fill", desc := "(IIII)I" } : Jvm.MethodName) prog_1_method_24_code (7 : Nat) (Option.some Jvm.ClassFile.FieldType.int)) ∈ lwg := tb_5 169 rfl rfl
theorem W_5_170 : (Jvm.Cond.methodLink "SyncTree" (234 : Nat) ({ cls := "SyncTree$Tree", name := "storeSame", desc := "(IIII)V" } : Jvm.MethodName)) ∈ lwg := tb_5 170 rfl rfl
theorem W_5_171 : (Jvm.Cond.instanceMethod ({ cls := "SyncTree$Tree", name := "storeSame", desc := "(IIII)V" } : Jvm.MethodName)) ∈ lwg := tb_5 171 rfl rfl
theorem W_5_172 : (Jvm.Cond.selects "SyncTree$Tree" ({ cls := "SyncTree$Tree", name := "storeSame", desc := "(IIII)V" } : Jvm.MethodName) ({ cls := "SyncTree$Tree", name := "storeSame", desc := "(IIII)V" } : Jvm.MethodName)) ∈ lwg := tb_5 172 rfl rfl
theorem W_5_173 : (Jvm.Cond.code ({ cls := "SyncTree$Tree", name := "storeSame", desc := "(IIII)V" } : Jvm.MethodName) prog_10_method_35_code (8 : Nat) (Option.none : Option Jvm.ClassFile.FieldType)) ∈ lwg := tb_5 173 rfl rfl
theorem W_5_174 : (Jvm.Cond.methodLink "SyncTreeLaw" (158 : Nat) ({ cls := "SyncTreeLaw", name := "truncate", desc := "(LSyncTree;II[J)I" } : Jvm.MethodName)) ∈ lwg := tb_5 174 rfl rfl
theorem W_5_175 : (Jvm.Cond.static ({ cls := "SyncTreeLaw", name := "truncate", desc := "(LSyncTree;II[J)I" } : Jvm.MethodName)) ∈ lwg := tb_5 175 rfl rfl
theorem W_5_176 : (Jvm.Cond.codeWith ({ cls := "SyncTreeLaw", name := "truncate", desc := "(LSyncTree;II[J)I" } : Jvm.MethodName) method_14_code (5 : Nat) (Option.some Jvm.ClassFile.FieldType.int) [((0 : Nat), (10 : Nat), (13 : Nat), (13 : Nat))]) ∈ lwg := tb_5 176 rfl rfl
theorem W_5_177 : (Jvm.Cond.methodLink "SyncTreeLaw" (48 : Nat) ({ cls := "SyncTree", name := "truncate", desc := "(II)I" } : Jvm.MethodName)) ∈ lwg := tb_5 177 rfl rfl
theorem W_5_178 : (Jvm.Cond.instanceMethod ({ cls := "SyncTree", name := "truncate", desc := "(II)I" } : Jvm.MethodName)) ∈ lwg := tb_5 178 rfl rfl
theorem W_5_179 : (Jvm.Cond.selects "SyncTree" ({ cls := "SyncTree", name := "truncate", desc := "(II)I" } : Jvm.MethodName) ({ cls := "SyncTree", name := "truncate", desc := "(II)I" } : Jvm.MethodName)) ∈ lwg := tb_5 179 rfl rfl
theorem W_5_180 : (Jvm.Cond.code ({ cls := "SyncTree", name := "truncate", desc := "(II)I" } : Jvm.MethodName) prog_1_method_26_code (4 : Nat) (Option.some Jvm.ClassFile.FieldType.int)) ∈ lwg := tb_5 180 rfl rfl
theorem W_5_181 : (Jvm.Cond.constant "SyncTree" (254 : Nat) (272384 : Int32)) ∈ lwg := tb_5 181 rfl rfl
theorem W_5_182 : (Jvm.Cond.methodLink "SyncTreeLaw" (162 : Nat) ({ cls := "SyncTreeLaw", name := "byteAt", desc := "(LSyncTree;II[J)I" } : Jvm.MethodName)) ∈ lwg := tb_5 182 rfl rfl
theorem W_5_183 : (Jvm.Cond.static ({ cls := "SyncTreeLaw", name := "byteAt", desc := "(LSyncTree;II[J)I" } : Jvm.MethodName)) ∈ lwg := tb_5 183 rfl rfl
theorem W_5_184 : (Jvm.Cond.codeWith ({ cls := "SyncTreeLaw", name := "byteAt", desc := "(LSyncTree;II[J)I" } : Jvm.MethodName) method_15_code (5 : Nat) (Option.some Jvm.ClassFile.FieldType.int) [((0 : Nat), (10 : Nat), (13 : Nat), (13 : Nat))]) ∈ lwg := tb_5 184 rfl rfl
theorem W_5_185 : (Jvm.Cond.methodLink "SyncTreeLaw" (52 : Nat) ({ cls := "SyncTree", name := "byteAt", desc := "(II)I" } : Jvm.MethodName)) ∈ lwg := tb_5 185 rfl rfl
theorem W_5_186 : (Jvm.Cond.instanceMethod ({ cls := "SyncTree", name := "byteAt", desc := "(II)I" } : Jvm.MethodName)) ∈ lwg := tb_5 186 rfl rfl
theorem W_5_187 : (Jvm.Cond.selects "SyncTree" ({ cls := "SyncTree", name := "byteAt", desc := "(II)I" } : Jvm.MethodName) ({ cls := "SyncTree", name := "byteAt", desc := "(II)I" } : Jvm.MethodName)) ∈ lwg := tb_5 187 rfl rfl
theorem W_5_188 : (Jvm.Cond.code ({ cls := "SyncTree", name := "byteAt", desc := "(II)I" } : Jvm.MethodName) prog_1_method_27_code (4 : Nat) (Option.some Jvm.ClassFile.FieldType.int)) ∈ lwg := tb_5 188 rfl rfl
theorem W_5_189 : (Jvm.Cond.methodLink "SyncTree" (255 : Nat) ({ cls := "SyncTree$Tree", name := "octetAt", desc := "(II)I" } : Jvm.MethodName)) ∈ lwg := tb_5 189 rfl rfl
theorem W_5_190 : (Jvm.Cond.instanceMethod ({ cls := "SyncTree$Tree", name := "octetAt", desc := "(II)I" } : Jvm.MethodName)) ∈ lwg := tb_5 190 rfl rfl
theorem W_5_191 : (Jvm.Cond.selects "SyncTree$Tree" ({ cls := "SyncTree$Tree", name := "octetAt", desc := "(II)I" } : Jvm.MethodName) ({ cls := "SyncTree$Tree", name := "octetAt", desc := "(II)I" } : Jvm.MethodName)) ∈ lwg := tb_5 191 rfl rfl
theorem W_5_192 : (Jvm.Cond.code ({ cls := "SyncTree$Tree", name := "octetAt", desc := "(II)I" } : Jvm.MethodName) prog_10_method_36_code (3 : Nat) (Option.some Jvm.ClassFile.FieldType.int)) ∈ lwg := tb_5 192 rfl rfl
theorem W_5_193 : (Jvm.Cond.methodLink "SyncTreeLaw" (165 : Nat) ({ cls := "SyncTreeLaw", name := "sum", desc := "(LSyncTree;III[J)I" } : Jvm.MethodName)) ∈ lwg := tb_5 193 rfl rfl
theorem W_5_194 : (Jvm.Cond.static ({ cls := "SyncTreeLaw", name := "sum", desc := "(LSyncTree;III[J)I" } : Jvm.MethodName)) ∈ lwg := tb_5 194 rfl rfl
theorem W_5_195 : (Jvm.Cond.codeWith ({ cls := "SyncTreeLaw", name := "sum", desc := "(LSyncTree;III[J)I" } : Jvm.MethodName) method_16_code (6 : Nat) (Option.some Jvm.ClassFile.FieldType.int) [((0 : Nat), (11 : Nat), (14 : Nat), (13 : Nat))]) ∈ lwg := tb_5 195 rfl rfl
theorem W_5_196 : (Jvm.Cond.methodLink "SyncTreeLaw" (55 : Nat) ({ cls := "SyncTree", name := "sum", desc := "(III)J" } : Jvm.MethodName)) ∈ lwg := tb_5 196 rfl rfl
theorem W_5_197 : (Jvm.Cond.instanceMethod ({ cls := "SyncTree", name := "sum", desc := "(III)J" } : Jvm.MethodName)) ∈ lwg := tb_5 197 rfl rfl
theorem W_5_198 : (Jvm.Cond.selects "SyncTree" ({ cls := "SyncTree", name := "sum", desc := "(III)J" } : Jvm.MethodName) ({ cls := "SyncTree", name := "sum", desc := "(III)J" } : Jvm.MethodName)) ∈ lwg := tb_5 198 rfl rfl
theorem W_5_199 : (Jvm.Cond.code ({ cls := "SyncTree", name := "sum", desc := "(III)J" } : Jvm.MethodName) prog_1_method_28_code (7 : Nat) (Option.some Jvm.ClassFile.FieldType.long)) ∈ lwg := tb_5 199 rfl rfl
theorem W_5_200 : (Jvm.Cond.constantLong "SyncTree" (258 : Nat) (-9 : Int64)) ∈ lwg := tb_5 200 rfl rfl
theorem W_5_201 : (Jvm.Cond.methodLink "SyncTree" (260 : Nat) ({ cls := "java/lang/Math", name := "max", desc := "(II)I" } : Jvm.MethodName)) ∈ lwg := tb_5 201 rfl rfl
theorem W_5_202 : (Jvm.Cond.methodLink "SyncTree" (265 : Nat) ({ cls := "java/lang/Math", name := "min", desc := "(II)I" } : Jvm.MethodName)) ∈ lwg := tb_5 202 rfl rfl
theorem W_5_203 : (Jvm.Cond.methodLink "SyncTree" (268 : Nat) ({ cls := "SyncTree$Tree", name := "checksum", desc := "(III)J" } : Jvm.MethodName)) ∈ lwg := tb_5 203 rfl rfl
theorem W_5_204 : (Jvm.Cond.instanceMethod ({ cls := "SyncTree$Tree", name := "checksum", desc := "(III)J" } : Jvm.MethodName)) ∈ lwg := tb_5 204 rfl rfl
theorem W_5_205 : (Jvm.Cond.selects "SyncTree$Tree" ({ cls := "SyncTree$Tree", name := "checksum", desc := "(III)J" } : Jvm.MethodName) ({ cls := "SyncTree$Tree", name := "checksum", desc := "(III)J" } : Jvm.MethodName)) ∈ lwg := tb_5 205 rfl rfl
theorem W_5_206 : (Jvm.Cond.code ({ cls := "SyncTree$Tree", name := "checksum", desc := "(III)J" } : Jvm.MethodName) prog_10_method_37_code (9 : Nat) (Option.some Jvm.ClassFile.FieldType.long)) ∈ lwg := tb_5 206 rfl rfl
theorem W_5_207 : (Jvm.Cond.constantLong "SyncTree$Tree" (151 : Nat) (31 : Int64)) ∈ lwg := tb_5 207 rfl rfl
theorem W_5_208 : (Jvm.Cond.constantLong "SyncTree$Tree" (153 : Nat) (4294967295 : Int64)) ∈ lwg := tb_5 208 rfl rfl
theorem W_5_209 : (Jvm.Cond.methodLink "SyncTreeLaw" (168 : Nat) ({ cls := "SyncTreeLaw", name := "info", desc := "(LSyncTree;IZ[J)I" } : Jvm.MethodName)) ∈ lwg := tb_5 209 rfl rfl
theorem W_5_210 : (Jvm.Cond.static ({ cls := "SyncTreeLaw", name := "info", desc := "(LSyncTree;IZ[J)I" } : Jvm.MethodName)) ∈ lwg := tb_5 210 rfl rfl
theorem W_5_211 : (Jvm.Cond.codeWith ({ cls := "SyncTreeLaw", name := "info", desc := "(LSyncTree;IZ[J)I" } : Jvm.MethodName) method_17_code (5 : Nat) (Option.some Jvm.ClassFile.FieldType.int) [((0 : Nat), (10 : Nat), (13 : Nat), (13 : Nat))]) ∈ lwg := tb_5 211 rfl rfl
theorem W_5_212 : (Jvm.Cond.methodLink "SyncTreeLaw" (59 : Nat) ({ cls := "SyncTree", name := "info", desc := "(IZ)I" } : Jvm.MethodName)) ∈ lwg := tb_5 212 rfl rfl
theorem W_5_213 : (Jvm.Cond.instanceMethod ({ cls := "SyncTree", name := "info", desc := "(IZ)I" } : Jvm.MethodName)) ∈ lwg := tb_5 213 rfl rfl
theorem W_5_214 : (Jvm.Cond.selects "SyncTree" ({ cls := "SyncTree", name := "info", desc := "(IZ)I" } : Jvm.MethodName) ({ cls := "SyncTree", name := "info", desc := "(IZ)I" } : Jvm.MethodName)) ∈ lwg := tb_5 214 rfl rfl
theorem W_5_215 : (Jvm.Cond.code ({ cls := "SyncTree", name := "info", desc := "(IZ)I" } : Jvm.MethodName) prog_1_method_29_code (4 : Nat) (Option.some Jvm.ClassFile.FieldType.int)) ∈ lwg := tb_5 215 rfl rfl
theorem W_5_216 : (Jvm.Cond.methodLink "SyncTree" (272 : Nat) ({ cls := "SyncTree$Tree", name := "describe", desc := "(II)I" } : Jvm.MethodName)) ∈ lwg := tb_5 216 rfl rfl
theorem W_5_217 : (Jvm.Cond.instanceMethod ({ cls := "SyncTree$Tree", name := "describe", desc := "(II)I" } : Jvm.MethodName)) ∈ lwg := tb_5 217 rfl rfl
theorem W_5_218 : (Jvm.Cond.selects "SyncTree$Tree" ({ cls := "SyncTree$Tree", name := "describe", desc := "(II)I" } : Jvm.MethodName) ({ cls := "SyncTree$Tree", name := "describe", desc := "(II)I" } : Jvm.MethodName)) ∈ lwg := tb_5 218 rfl rfl
theorem W_5_219 : (Jvm.Cond.code ({ cls := "SyncTree$Tree", name := "describe", desc := "(II)I" } : Jvm.MethodName) prog_10_method_38_code (3 : Nat) (Option.some Jvm.ClassFile.FieldType.int)) ∈ lwg := tb_5 219 rfl rfl
theorem W_5_220 : (Jvm.Cond.methodLink "SyncTree$Tree" (155 : Nat) ({ cls := "SyncTree$Tree", name := "countBlocks", desc := "(I)I" } : Jvm.MethodName)) ∈ lwg := tb_5 220 rfl rfl
theorem W_5_222 : (Jvm.Cond.instanceMethod ({ cls := "SyncTree$Tree", name := "countBlocks", desc := "(I)I" } : Jvm.MethodName)) ∈ lwg := tb_5 222 rfl rfl
theorem W_5_223 : (Jvm.Cond.code ({ cls := "SyncTree$Tree", name := "countBlocks", desc := "(I)I" } : Jvm.MethodName) prog_10_method_39_code (5 : Nat) (Option.some Jvm.ClassFile.FieldType.int)) ∈ lwg := tb_5 223 rfl rfl
theorem W_5_224 : (Jvm.Cond.methodLink "SyncTree$Tree" (158 : Nat) ({ cls := "SyncTree$Tree", name := "countPointerBlocks", desc := "(I)I" } : Jvm.MethodName)) ∈ lwg := tb_5 224 rfl rfl
theorem W_5_226 : (Jvm.Cond.instanceMethod ({ cls := "SyncTree$Tree", name := "countPointerBlocks", desc := "(I)I" } : Jvm.MethodName)) ∈ lwg := tb_5 226 rfl rfl
theorem W_5_227 : (Jvm.Cond.code ({ cls := "SyncTree$Tree", name := "countPointerBlocks", desc := "(I)I" } : Jvm.MethodName) prog_10_method_40_code (6 : Nat) (Option.some Jvm.ClassFile.FieldType.int)) ∈ lwg := tb_5 227 rfl rfl
theorem W_5_228 : (Jvm.Cond.methodLink "SyncTree$Tree" (164 : Nat) ({ cls := "SyncTree$Space", name := "word", desc := "(II)J" } : Jvm.MethodName)) ∈ lwg := tb_5 228 rfl rfl
theorem W_5_229 : (Jvm.Cond.methodLink "SyncTree$Tree" (161 : Nat) ({ cls := "SyncTree$Tree", name := "countEntries", desc := "(I)I" } : Jvm.MethodName)) ∈ lwg := tb_5 229 rfl rfl
theorem W_5_230 : (Jvm.Cond.methodLink "SyncTreeLaw" (172 : Nat) ({ cls := "SyncTreeLaw", name := "infoOf", desc := "(LSyncTree;II[J)I" } : Jvm.MethodName)) ∈ lwg := tb_5 230 rfl rfl
theorem W_5_231 : (Jvm.Cond.static ({ cls := "SyncTreeLaw", name := "infoOf", desc := "(LSyncTree;II[J)I" } : Jvm.MethodName)) ∈ lwg := tb_5 231 rfl rfl
theorem W_5_232 : (Jvm.Cond.codeWith ({ cls := "SyncTreeLaw", name := "infoOf", desc := "(LSyncTree;II[J)I" } : Jvm.MethodName) method_18_code (5 : Nat) (Option.some Jvm.ClassFile.FieldType.int) [((0 : Nat), (10 : Nat), (13 : Nat), (13 : Nat))]) ∈ lwg := tb_5 232 rfl rfl
theorem W_5_233 : (Jvm.Cond.methodLink "SyncTreeLaw" (63 : Nat) ({ cls := "SyncTree", name := "infoOf", desc := "(II)I" } : Jvm.MethodName)) ∈ lwg := tb_5 233 rfl rfl
theorem W_5_234 : (Jvm.Cond.instanceMethod ({ cls := "SyncTree", name := "infoOf", desc := "(II)I" } : Jvm.MethodName)) ∈ lwg := tb_5 234 rfl rfl
theorem W_5_235 : (Jvm.Cond.selects "SyncTree" ({ cls := "SyncTree", name := "infoOf", desc := "(II)I" } : Jvm.MethodName) ({ cls := "SyncTree", name := "infoOf", desc := "(II)I" } : Jvm.MethodName)) ∈ lwg := tb_5 235 rfl rfl
theorem W_5_236 : (Jvm.Cond.code ({ cls := "SyncTree", name := "infoOf", desc := "(II)I" } : Jvm.MethodName) prog_1_method_30_code (4 : Nat) (Option.some Jvm.ClassFile.FieldType.int)) ∈ lwg := tb_5 236 rfl rfl
theorem W_5_237 : (Jvm.Cond.methodLink "SyncTreeLaw" (175 : Nat) ({ cls := "SyncTreeLaw", name := "entry", desc := "(LSyncTree;II[J)I" } : Jvm.MethodName)) ∈ lwg := tb_5 237 rfl rfl
theorem W_5_238 : (Jvm.Cond.static ({ cls := "SyncTreeLaw", name := "entry", desc := "(LSyncTree;II[J)I" } : Jvm.MethodName)) ∈ lwg := tb_5 238 rfl rfl
theorem W_5_239 : (Jvm.Cond.codeWith ({ cls := "SyncTreeLaw", name := "entry", desc := "(LSyncTree;II[J)I" } : Jvm.MethodName) method_19_code (5 : Nat) (Option.some Jvm.ClassFile.FieldType.int) [((0 : Nat), (10 : Nat), (13 : Nat), (13 : Nat))]) ∈ lwg := tb_5 239 rfl rfl
theorem W_6_0 : (Jvm.Cond.methodLink "SyncTreeLaw" (66 : Nat) ({ cls := "SyncTree", name := "entry", desc := "(II)I" } : Jvm.MethodName)) ∈ lwg := tb_6 0 rfl rfl
theorem W_6_1 : (Jvm.Cond.instanceMethod ({ cls := "SyncTree", name := "entry", desc := "(II)I" } : Jvm.MethodName)) ∈ lwg := tb_6 1 rfl rfl
theorem W_6_2 : (Jvm.Cond.selects "SyncTree" ({ cls := "SyncTree", name := "entry", desc := "(II)I" } : Jvm.MethodName) ({ cls := "SyncTree", name := "entry", desc := "(II)I" } : Jvm.MethodName)) ∈ lwg := tb_6 2 rfl rfl
theorem W_6_3 : (Jvm.Cond.code ({ cls := "SyncTree", name := "entry", desc := "(II)I" } : Jvm.MethodName) prog_1_method_31_code (5 : Nat) (Option.some Jvm.ClassFile.FieldType.int)) ∈ lwg := tb_6 3 rfl rfl
theorem W_6_4 : (Jvm.Cond.methodLink "SyncTree" (275 : Nat) ({ cls := "SyncTree$Tree", name := "entries", desc := "(I)I" } : Jvm.MethodName)) ∈ lwg := tb_6 4 rfl rfl
theorem W_6_5 : (Jvm.Cond.methodLink "SyncTree" (278 : Nat) ({ cls := "SyncTree$Tree", name := "nameLength", desc := "(II)I" } : Jvm.MethodName)) ∈ lwg := tb_6 5 rfl rfl
theorem W_6_6 : (Jvm.Cond.methodLink "SyncTree" (281 : Nat) ({ cls := "SyncTree$Tree", name := "nameOctet", desc := "(III)I" } : Jvm.MethodName)) ∈ lwg := tb_6 6 rfl rfl
theorem W_6_7 : (Jvm.Cond.instanceMethod ({ cls := "SyncTree$Tree", name := "nameOctet", desc := "(III)I" } : Jvm.MethodName)) ∈ lwg := tb_6 7 rfl rfl
theorem W_6_8 : (Jvm.Cond.selects "SyncTree$Tree" ({ cls := "SyncTree$Tree", name := "nameOctet", desc := "(III)I" } : Jvm.MethodName) ({ cls := "SyncTree$Tree", name := "nameOctet", desc := "(III)I" } : Jvm.MethodName)) ∈ lwg := tb_6 8 rfl rfl
theorem W_6_9 : (Jvm.Cond.code ({ cls := "SyncTree$Tree", name := "nameOctet", desc := "(III)I" } : Jvm.MethodName) prog_10_method_44_code (4 : Nat) (Option.some Jvm.ClassFile.FieldType.int)) ∈ lwg := tb_6 9 rfl rfl
theorem W_6_10 : (Jvm.Cond.methodLink "SyncTreeLaw" (178 : Nat) ({ cls := "SyncTreeLaw", name := "textAt", desc := "(LSyncTree;I[J)I" } : Jvm.MethodName)) ∈ lwg := tb_6 10 rfl rfl
theorem W_6_11 : (Jvm.Cond.static ({ cls := "SyncTreeLaw", name := "textAt", desc := "(LSyncTree;I[J)I" } : Jvm.MethodName)) ∈ lwg := tb_6 11 rfl rfl
theorem W_6_12 : (Jvm.Cond.codeWith ({ cls := "SyncTreeLaw", name := "textAt", desc := "(LSyncTree;I[J)I" } : Jvm.MethodName) method_20_code (4 : Nat) (Option.some Jvm.ClassFile.FieldType.int) [((0 : Nat), (9 : Nat), (12 : Nat), (13 : Nat))]) ∈ lwg := tb_6 12 rfl rfl
theorem W_6_13 : (Jvm.Cond.methodLink "SyncTreeLaw" (69 : Nat) ({ cls := "SyncTree", name := "textAt", desc := "(I)I" } : Jvm.MethodName)) ∈ lwg := tb_6 13 rfl rfl
theorem W_6_14 : (Jvm.Cond.instanceMethod ({ cls := "SyncTree", name := "textAt", desc := "(I)I" } : Jvm.MethodName)) ∈ lwg := tb_6 14 rfl rfl
theorem W_6_15 : (Jvm.Cond.selects "SyncTree" ({ cls := "SyncTree", name := "textAt", desc := "(I)I" } : Jvm.MethodName) ({ cls := "SyncTree", name := "textAt", desc := "(I)I" } : Jvm.MethodName)) ∈ lwg := tb_6 15 rfl rfl
theorem W_6_16 : (Jvm.Cond.code ({ cls := "SyncTree", name := "textAt", desc := "(I)I" } : Jvm.MethodName) prog_1_method_32_code (3 : Nat) (Option.some Jvm.ClassFile.FieldType.int)) ∈ lwg := tb_6 16 rfl rfl
theorem W_6_17 : (Jvm.Cond.methodLink "SyncTree" (284 : Nat) ({ cls := "SyncTree$Tree", name := "textOctet", desc := "(II)I" } : Jvm.MethodName)) ∈ lwg := tb_6 17 rfl rfl
theorem W_6_18 : (Jvm.Cond.methodLink "SyncTreeLaw" (181 : Nat) ({ cls := "SyncTreeLaw", name := "blockOf", desc := "(LSyncTree;II[J)I" } : Jvm.MethodName)) ∈ lwg := tb_6 18 rfl rfl
theorem W_6_19 : (Jvm.Cond.static ({ cls := "SyncTreeLaw", name := "blockOf", desc := "(LSyncTree;II[J)I" } : Jvm.MethodName)) ∈ lwg := tb_6 19 rfl rfl
theorem W_6_20 : (Jvm.Cond.codeWith ({ cls := "SyncTreeLaw", name := "blockOf", desc := "(LSyncTree;II[J)I" } : Jvm.MethodName) method_21_code (5 : Nat) (Option.some Jvm.ClassFile.FieldType.int) [((0 : Nat), (10 : Nat), (13 : Nat), (13 : Nat))]) ∈ lwg := tb_6 20 rfl rfl
theorem W_6_21 : (Jvm.Cond.methodLink "SyncTreeLaw" (72 : Nat) ({ cls := "SyncTree", name := "blockOf", desc := "(II)I" } : Jvm.MethodName)) ∈ lwg := tb_6 21 rfl rfl
theorem W_6_22 : (Jvm.Cond.instanceMethod ({ cls := "SyncTree", name := "blockOf", desc := "(II)I" } : Jvm.MethodName)) ∈ lwg := tb_6 22 rfl rfl
theorem W_6_23 : (Jvm.Cond.selects "SyncTree" ({ cls := "SyncTree", name := "blockOf", desc := "(II)I" } : Jvm.MethodName) ({ cls := "SyncTree", name := "blockOf", desc := "(II)I" } : Jvm.MethodName)) ∈ lwg := tb_6 23 rfl rfl
theorem W_6_24 : (Jvm.Cond.code ({ cls := "SyncTree", name := "blockOf", desc := "(II)I" } : Jvm.MethodName) prog_1_method_33_code (5 : Nat) (Option.some Jvm.ClassFile.FieldType.int)) ∈ lwg := tb_6 24 rfl rfl
theorem W_6_25 : (Jvm.Cond.methodLink "SyncTree" (287 : Nat) ({ cls := "SyncTree$Tree", name := "pointer", desc := "(II)J" } : Jvm.MethodName)) ∈ lwg := tb_6 25 rfl rfl
theorem W_6_26 : (Jvm.Cond.methodLink "SyncTree" (291 : Nat) ({ cls := "SyncTree$Tree", name := "cellOf", desc := "(J)I" } : Jvm.MethodName)) ∈ lwg := tb_6 26 rfl rfl
theorem W_6_27 : (Jvm.Cond.methodLink "SyncTree" (295 : Nat) ({ cls := "SyncTree$Space", name := "numberOf", desc := "(I)I" } : Jvm.MethodName)) ∈ lwg := tb_6 27 rfl rfl
theorem W_6_28 : (Jvm.Cond.methodLink "SyncTreeLaw" (184 : Nat) ({ cls := "SyncTreeLaw", name := "fsync", desc := "(LSyncTree;I[J)I" } : Jvm.MethodName)) ∈ lwg := tb_6 28 rfl rfl
theorem W_6_29 : (Jvm.Cond.static ({ cls := "SyncTreeLaw", name := "fsync", desc := "(LSyncTree;I[J)I" } : Jvm.MethodName)) ∈ lwg := tb_6 29 rfl rfl
theorem W_6_30 : (Jvm.Cond.codeWith ({ cls := "SyncTreeLaw", name := "fsync", desc := "(LSyncTree;I[J)I" } : Jvm.MethodName) method_22_code (4 : Nat) (Option.some Jvm.ClassFile.FieldType.int) [((0 : Nat), (9 : Nat), (12 : Nat), (13 : Nat))]) ∈ lwg := tb_6 30 rfl rfl
theorem W_6_31 : (Jvm.Cond.methodLink "SyncTreeLaw" (75 : Nat) ({ cls := "SyncTree", name := "fsync", desc := "(I)I" } : Jvm.MethodName)) ∈ lwg := tb_6 31 rfl rfl
theorem W_6_32 : (Jvm.Cond.instanceMethod ({ cls := "SyncTree", name := "fsync", desc := "(I)I" } : Jvm.MethodName)) ∈ lwg := tb_6 32 rfl rfl
theorem W_6_33 : (Jvm.Cond.selects "SyncTree" ({ cls := "SyncTree", name := "fsync", desc := "(I)I" } : Jvm.MethodName) ({ cls := "SyncTree", name := "fsync", desc := "(I)I" } : Jvm.MethodName)) ∈ lwg := tb_6 33 rfl rfl
theorem W_6_34 : (Jvm.Cond.code ({ cls := "SyncTree", name := "fsync", desc := "(I)I" } : Jvm.MethodName) prog_1_method_34_code (4 : Nat) (Option.some Jvm.ClassFile.FieldType.int)) ∈ lwg := tb_6 34 rfl rfl
theorem W_6_35 : (Jvm.Cond.constant "SyncTree" (298 : Nat) (1000000 : Int32)) ∈ lwg := tb_6 35 rfl rfl
theorem W_6_36 : (Jvm.Cond.methodLink "SyncTree" (299 : Nat) ({ cls := "SyncTree", name := "writeDirty", desc := "(II)I" } : Jvm.MethodName)) ∈ lwg := tb_6 36 rfl rfl
theorem W_6_38 : (Jvm.Cond.instanceMethod ({ cls := "SyncTree", name := "writeDirty", desc := "(II)I" } : Jvm.MethodName)) ∈ lwg := tb_6 38 rfl rfl
theorem W_6_39 : (Jvm.Cond.code ({ cls := "SyncTree", name := "writeDirty", desc := "(II)I" } : Jvm.MethodName) prog_1_method_37_code (5 : Nat) (Option.some Jvm.ClassFile.FieldType.int)) ∈ lwg := tb_6 39 rfl rfl
theorem W_6_40 : (Jvm.Cond.methodLink "SyncTree" (317 : Nat) ({ cls := "SyncTree$Space", name := "isDirty", desc := "(I)Z" } : Jvm.MethodName)) ∈ lwg := tb_6 40 rfl rfl
theorem W_6_41 : (Jvm.Cond.instanceMethod ({ cls := "SyncTree$Space", name := "isDirty", desc := "(I)Z" } : Jvm.MethodName)) ∈ lwg := tb_6 41 rfl rfl
theorem W_6_42 : (Jvm.Cond.selects "SyncTree$Space" ({ cls := "SyncTree$Space", name := "isDirty", desc := "(I)Z" } : Jvm.MethodName) ({ cls := "SyncTree$Space", name := "isDirty", desc := "(I)Z" } : Jvm.MethodName)) ∈ lwg := tb_6 42 rfl rfl
theorem W_6_43 : (Jvm.Cond.code ({ cls := "SyncTree$Space", name := "isDirty", desc := "(I)Z" } : Jvm.MethodName) prog_7_method_11_code (2 : Nat) (Option.some Jvm.ClassFile.FieldType.boolean)) ∈ lwg := tb_6 43 rfl rfl
theorem W_6_44 : (Jvm.Cond.methodLink "SyncTree" (320 : Nat) ({ cls := "SyncTree$Space", name := "ownerOf", desc := "(I)I" } : Jvm.MethodName)) ∈ lwg := tb_6 44 rfl rfl
theorem W_6_45 : (Jvm.Cond.instanceMethod ({ cls := "SyncTree$Space", name := "ownerOf", desc := "(I)I" } : Jvm.MethodName)) ∈ lwg := tb_6 45 rfl rfl
theorem W_6_46 : (Jvm.Cond.selects "SyncTree$Space" ({ cls := "SyncTree$Space", name := "ownerOf", desc := "(I)I" } : Jvm.MethodName) ({ cls := "SyncTree$Space", name := "ownerOf", desc := "(I)I" } : Jvm.MethodName)) ∈ lwg := tb_6 46 rfl rfl
theorem W_6_47 : (Jvm.Cond.code ({ cls := "SyncTree$Space", name := "ownerOf", desc := "(I)I" } : Jvm.MethodName) prog_7_method_8_code (2 : Nat) (Option.some Jvm.ClassFile.FieldType.int)) ∈ lwg := tb_6 47 rfl rfl
theorem W_6_48 : (Jvm.Cond.methodLink "SyncTree" (323 : Nat) ({ cls := "SyncTree$Space", name := "birthOf", desc := "(I)I" } : Jvm.MethodName)) ∈ lwg := tb_6 48 rfl rfl
theorem W_6_49 : (Jvm.Cond.instanceMethod ({ cls := "SyncTree$Space", name := "birthOf", desc := "(I)I" } : Jvm.MethodName)) ∈ lwg := tb_6 49 rfl rfl
theorem W_6_50 : (Jvm.Cond.selects "SyncTree$Space" ({ cls := "SyncTree$Space", name := "birthOf", desc := "(I)I" } : Jvm.MethodName) ({ cls := "SyncTree$Space", name := "birthOf", desc := "(I)I" } : Jvm.MethodName)) ∈ lwg := tb_6 50 rfl rfl
theorem W_6_51 : (Jvm.Cond.code ({ cls := "SyncTree$Space", name := "birthOf", desc := "(I)I" } : Jvm.MethodName) prog_7_method_7_code (2 : Nat) (Option.some Jvm.ClassFile.FieldType.int)) ∈ lwg := tb_6 51 rfl rfl
theorem W_6_52 : (Jvm.Cond.methodLink "SyncTree" (326 : Nat) ({ cls := "SyncTree$Disk", name := "put", desc := "(II)V" } : Jvm.MethodName)) ∈ lwg := tb_6 52 rfl rfl
theorem W_6_53 : (Jvm.Cond.methodLink "SyncTree" (333 : Nat) ({ cls := "SyncTree$Disk", name := "giveBytes", desc := "([JI)V" } : Jvm.MethodName)) ∈ lwg := tb_6 53 rfl rfl
theorem W_6_54 : (Jvm.Cond.instanceMethod ({ cls := "SyncTree$Disk", name := "giveBytes", desc := "([JI)V" } : Jvm.MethodName)) ∈ lwg := tb_6 54 rfl rfl
theorem W_6_55 : (Jvm.Cond.selects "SyncTree$Disk" ({ cls := "SyncTree$Disk", name := "giveBytes", desc := "([JI)V" } : Jvm.MethodName) ({ cls := "SyncTree$Disk", name := "giveBytes", desc := "([JI)V" } : Jvm.MethodName)) ∈ lwg := tb_6 55 rfl rfl
theorem W_6_56 : (Jvm.Cond.code ({ cls := "SyncTree$Disk", name := "giveBytes", desc := "([JI)V" } : Jvm.MethodName) prog_2_method_7_code (4 : Nat) (Option.none : Option Jvm.ClassFile.FieldType)) ∈ lwg := tb_6 56 rfl rfl
theorem W_6_57 : (Jvm.Cond.methodLinkNest "SyncTree$Disk" (90 : Nat) ({ cls := "SyncTree$Row", name := "<init>", desc := "()V" } : Jvm.MethodName) "SyncTree") ∈ lwg := tb_6 57 rfl rfl
theorem W_6_58 : (Jvm.Cond.methodLink "SyncTree$Disk" (95 : Nat) ({ cls := "java/lang/System", name := "arraycopy", desc := "(Ljava/lang/Object;ILjava/lang/Object;II)V" } : Jvm.MethodName)) ∈ lwg := tb_6 58 rfl rfl
theorem W_6_59 : (Jvm.Cond.methodLink "SyncTree" (337 : Nat) ({ cls := "SyncTree$Space", name := "clean", desc := "(I)V" } : Jvm.MethodName)) ∈ lwg := tb_6 59 rfl rfl
theorem W_6_60 : (Jvm.Cond.methodLink "SyncTree" (302 : Nat) ({ cls := "SyncTree$Journal", name := "postGroup", desc := "()I" } : Jvm.MethodName)) ∈ lwg := tb_6 60 rfl rfl
theorem W_6_61 : (Jvm.Cond.methodLink "SyncTree" (305 : Nat) ({ cls := "SyncTree$Journal", name := "flush", desc := "()V" } : Jvm.MethodName)) ∈ lwg := tb_6 61 rfl rfl
theorem W_6_62 : (Jvm.Cond.methodLink "SyncTreeLaw" (187 : Nat) ({ cls := "SyncTreeLaw", name := "fdatasync", desc := "(LSyncTree;I[J)I" } : Jvm.MethodName)) ∈ lwg := tb_6 62 rfl rfl
theorem W_6_63 : (Jvm.Cond.static ({ cls := "SyncTreeLaw", name := "fdatasync", desc := "(LSyncTree;I[J)I" } : Jvm.MethodName)) ∈ lwg := tb_6 63 rfl rfl
theorem W_6_64 : (Jvm.Cond.codeWith ({ cls := "SyncTreeLaw", name := "fdatasync", desc := "(LSyncTree;I[J)I" } : Jvm.MethodName) method_23_code (4 : Nat) (Option.some Jvm.ClassFile.FieldType.int) [((0 : Nat), (9 : Nat), (12 : Nat), (13 : Nat))]) ∈ lwg := tb_6 64 rfl rfl
theorem W_6_65 : (Jvm.Cond.methodLink "SyncTreeLaw" (78 : Nat) ({ cls := "SyncTree", name := "fdatasync", desc := "(I)I" } : Jvm.MethodName)) ∈ lwg := tb_6 65 rfl rfl
theorem W_6_66 : (Jvm.Cond.instanceMethod ({ cls := "SyncTree", name := "fdatasync", desc := "(I)I" } : Jvm.MethodName)) ∈ lwg := tb_6 66 rfl rfl
theorem W_6_67 : (Jvm.Cond.selects "SyncTree" ({ cls := "SyncTree", name := "fdatasync", desc := "(I)I" } : Jvm.MethodName) ({ cls := "SyncTree", name := "fdatasync", desc := "(I)I" } : Jvm.MethodName)) ∈ lwg := tb_6 67 rfl rfl
theorem W_6_68 : (Jvm.Cond.code ({ cls := "SyncTree", name := "fdatasync", desc := "(I)I" } : Jvm.MethodName) prog_1_method_35_code (4 : Nat) (Option.some Jvm.ClassFile.FieldType.int)) ∈ lwg := tb_6 68 rfl rfl
theorem W_6_69 : (Jvm.Cond.methodLink "SyncTree" (308 : Nat) ({ cls := "SyncTree$Tree", name := "isChanged", desc := "(I)Z" } : Jvm.MethodName)) ∈ lwg := tb_6 69 rfl rfl
theorem W_6_70 : (Jvm.Cond.instanceMethod ({ cls := "SyncTree$Tree", name := "isChanged", desc := "(I)Z" } : Jvm.MethodName)) ∈ lwg := tb_6 70 rfl rfl
theorem W_6_71 : (Jvm.Cond.selects "SyncTree$Tree" ({ cls := "SyncTree$Tree", name := "isChanged", desc := "(I)Z" } : Jvm.MethodName) ({ cls := "SyncTree$Tree", name := "isChanged", desc := "(I)Z" } : Jvm.MethodName)) ∈ lwg := tb_6 71 rfl rfl
theorem W_6_72 : (Jvm.Cond.code ({ cls := "SyncTree$Tree", name := "isChanged", desc := "(I)Z" } : Jvm.MethodName) prog_10_method_19_code (2 : Nat) (Option.some Jvm.ClassFile.FieldType.boolean)) ∈ lwg := tb_6 72 rfl rfl
theorem W_6_73 : (Jvm.Cond.methodLink "SyncTreeLaw" (190 : Nat) ({ cls := "SyncTreeLaw", name := "sync", desc := "(LSyncTree;[J)I" } : Jvm.MethodName)) ∈ lwg := tb_6 73 rfl rfl
theorem W_6_74 : (Jvm.Cond.static ({ cls := "SyncTreeLaw", name := "sync", desc := "(LSyncTree;[J)I" } : Jvm.MethodName)) ∈ lwg := tb_6 74 rfl rfl
theorem W_6_75 : (Jvm.Cond.codeWith ({ cls := "SyncTreeLaw", name := "sync", desc := "(LSyncTree;[J)I" } : Jvm.MethodName) method_24_code (3 : Nat) (Option.some Jvm.ClassFile.FieldType.int) [((0 : Nat), (8 : Nat), (11 : Nat), (13 : Nat))]) ∈ lwg := tb_6 75 rfl rfl
theorem W_6_76 : (Jvm.Cond.methodLink "SyncTreeLaw" (81 : Nat) ({ cls := "SyncTree", name := "sync", desc := "()I" } : Jvm.MethodName)) ∈ lwg := tb_6 76 rfl rfl
theorem W_6_77 : (Jvm.Cond.instanceMethod ({ cls := "SyncTree", name := "sync", desc := "()I" } : Jvm.MethodName)) ∈ lwg := tb_6 77 rfl rfl
theorem W_6_78 : (Jvm.Cond.selects "SyncTree" ({ cls := "SyncTree", name := "sync", desc := "()I" } : Jvm.MethodName) ({ cls := "SyncTree", name := "sync", desc := "()I" } : Jvm.MethodName)) ∈ lwg := tb_6 78 rfl rfl
theorem W_6_79 : (Jvm.Cond.code ({ cls := "SyncTree", name := "sync", desc := "()I" } : Jvm.MethodName) prog_1_method_36_code (2 : Nat) (Option.some Jvm.ClassFile.FieldType.int)) ∈ lwg := tb_6 79 rfl rfl
theorem W_6_80 : (Jvm.Cond.methodLink "SyncTreeLaw" (193 : Nat) ({ cls := "SyncTreeLaw", name := "post", desc := "(LSyncTree;[J)I" } : Jvm.MethodName)) ∈ lwg := tb_6 80 rfl rfl
theorem W_6_81 : (Jvm.Cond.static ({ cls := "SyncTreeLaw", name := "post", desc := "(LSyncTree;[J)I" } : Jvm.MethodName)) ∈ lwg := tb_6 81 rfl rfl
theorem W_6_82 : (Jvm.Cond.codeWith ({ cls := "SyncTreeLaw", name := "post", desc := "(LSyncTree;[J)I" } : Jvm.MethodName) method_25_code (3 : Nat) (Option.some Jvm.ClassFile.FieldType.int) [((0 : Nat), (8 : Nat), (11 : Nat), (13 : Nat))]) ∈ lwg := tb_6 82 rfl rfl
theorem W_6_83 : (Jvm.Cond.methodLink "SyncTreeLaw" (84 : Nat) ({ cls := "SyncTree", name := "post", desc := "()I" } : Jvm.MethodName)) ∈ lwg := tb_6 83 rfl rfl
theorem W_6_84 : (Jvm.Cond.instanceMethod ({ cls := "SyncTree", name := "post", desc := "()I" } : Jvm.MethodName)) ∈ lwg := tb_6 84 rfl rfl
theorem W_6_85 : (Jvm.Cond.selects "SyncTree" ({ cls := "SyncTree", name := "post", desc := "()I" } : Jvm.MethodName) ({ cls := "SyncTree", name := "post", desc := "()I" } : Jvm.MethodName)) ∈ lwg := tb_6 85 rfl rfl
theorem W_6_86 : (Jvm.Cond.code ({ cls := "SyncTree", name := "post", desc := "()I" } : Jvm.MethodName) prog_1_method_38_code (1 : Nat) (Option.some Jvm.ClassFile.FieldType.int)) ∈ lwg := tb_6 86 rfl rfl
theorem W_6_87 : (Jvm.Cond.methodLink "SyncTreeLaw" (196 : Nat) ({ cls := "SyncTreeLaw", name := "writeBack", desc := "(LSyncTree;I[J)I" } : Jvm.MethodName)) ∈ lwg := tb_6 87 rfl rfl
theorem W_6_88 : (Jvm.Cond.static ({ cls := "SyncTreeLaw", name := "writeBack", desc := "(LSyncTree;I[J)I" } : Jvm.MethodName)) ∈ lwg := tb_6 88 rfl rfl
theorem W_6_89 : (Jvm.Cond.codeWith ({ cls := "SyncTreeLaw", name := "writeBack", desc := "(LSyncTree;I[J)I" } : Jvm.MethodName) method_26_code (4 : Nat) (Option.some Jvm.ClassFile.FieldType.int) [((0 : Nat), (9 : Nat), (12 : Nat), (13 : Nat))]) ∈ lwg := tb_6 89 rfl rfl
theorem W_6_90 : (Jvm.Cond.methodLink "SyncTreeLaw" (87 : Nat) ({ cls := "SyncTree", name := "writeBack", desc := "(I)I" } : Jvm.MethodName)) ∈ lwg := tb_6 90 rfl rfl
theorem W_6_91 : (Jvm.Cond.instanceMethod ({ cls := "SyncTree", name := "writeBack", desc := "(I)I" } : Jvm.MethodName)) ∈ lwg := tb_6 91 rfl rfl
theorem W_6_92 : (Jvm.Cond.selects "SyncTree" ({ cls := "SyncTree", name := "writeBack", desc := "(I)I" } : Jvm.MethodName) ({ cls := "SyncTree", name := "writeBack", desc := "(I)I" } : Jvm.MethodName)) ∈ lwg := tb_6 92 rfl rfl
theorem W_6_93 : (Jvm.Cond.code ({ cls := "SyncTree", name := "writeBack", desc := "(I)I" } : Jvm.MethodName) prog_1_method_39_code (2 : Nat) (Option.some Jvm.ClassFile.FieldType.int)) ∈ lwg := tb_6 93 rfl rfl
theorem W_6_94 : (Jvm.Cond.methodLink "SyncTreeLaw" (199 : Nat) ({ cls := "SyncTreeLaw", name := "apply", desc := "(LSyncTree;I[J)I" } : Jvm.MethodName)) ∈ lwg := tb_6 94 rfl rfl
theorem W_6_95 : (Jvm.Cond.static ({ cls := "SyncTreeLaw", name := "apply", desc := "(LSyncTree;I[J)I" } : Jvm.MethodName)) ∈ lwg := tb_6 95 rfl rfl
theorem W_6_96 : (Jvm.Cond.codeWith ({ cls := "SyncTreeLaw", name := "apply", desc := "(LSyncTree;I[J)I" } : Jvm.MethodName) method_27_code (4 : Nat) (Option.some Jvm.ClassFile.FieldType.int) [((0 : Nat), (9 : Nat), (12 : Nat), (13 : Nat))]) ∈ lwg := tb_6 96 rfl rfl
theorem W_6_97 : (Jvm.Cond.methodLink "SyncTreeLaw" (90 : Nat) ({ cls := "SyncTree", name := "apply", desc := "(I)I" } : Jvm.MethodName)) ∈ lwg := tb_6 97 rfl rfl
theorem W_6_98 : (Jvm.Cond.instanceMethod ({ cls := "SyncTree", name := "apply", desc := "(I)I" } : Jvm.MethodName)) ∈ lwg := tb_6 98 rfl rfl
theorem W_6_99 : (Jvm.Cond.selects "SyncTree" ({ cls := "SyncTree", name := "apply", desc := "(I)I" } : Jvm.MethodName) ({ cls := "SyncTree", name := "apply", desc := "(I)I" } : Jvm.MethodName)) ∈ lwg := tb_6 99 rfl rfl
theorem W_6_100 : (Jvm.Cond.code ({ cls := "SyncTree", name := "apply", desc := "(I)I" } : Jvm.MethodName) prog_1_method_40_code (2 : Nat) (Option.some Jvm.ClassFile.FieldType.int)) ∈ lwg := tb_6 100 rfl rfl
theorem W_6_101 : (Jvm.Cond.methodLink "SyncTree" (340 : Nat) ({ cls := "SyncTree$Journal", name := "applySome", desc := "(I)I" } : Jvm.MethodName)) ∈ lwg := tb_6 101 rfl rfl
theorem W_6_102 : (Jvm.Cond.methodLink "SyncTreeLaw" (206 : Nat) ({ cls := "SyncTreeLaw", name := "crash", desc := "(LSyncTree;[J)I" } : Jvm.MethodName)) ∈ lwg := tb_6 102 rfl rfl
theorem W_6_103 : (Jvm.Cond.static ({ cls := "SyncTreeLaw", name := "crash", desc := "(LSyncTree;[J)I" } : Jvm.MethodName)) ∈ lwg := tb_6 103 rfl rfl
theorem W_6_104 : (Jvm.Cond.codeWith ({ cls := "SyncTreeLaw", name := "crash", desc := "(LSyncTree;[J)I" } : Jvm.MethodName) method_28_code (3 : Nat) (Option.some Jvm.ClassFile.FieldType.int) [((0 : Nat), (8 : Nat), (11 : Nat), (13 : Nat))]) ∈ lwg := tb_6 104 rfl rfl
theorem W_6_105 : (Jvm.Cond.methodLink "SyncTreeLaw" (93 : Nat) ({ cls := "SyncTree", name := "crash", desc := "()I" } : Jvm.MethodName)) ∈ lwg := tb_6 105 rfl rfl
theorem W_6_106 : (Jvm.Cond.instanceMethod ({ cls := "SyncTree", name := "crash", desc := "()I" } : Jvm.MethodName)) ∈ lwg := tb_6 106 rfl rfl
theorem W_6_107 : (Jvm.Cond.selects "SyncTree" ({ cls := "SyncTree", name := "crash", desc := "()I" } : Jvm.MethodName) ({ cls := "SyncTree", name := "crash", desc := "()I" } : Jvm.MethodName)) ∈ lwg := tb_6 107 rfl rfl
theorem W_6_108 : (Jvm.Cond.code ({ cls := "SyncTree", name := "crash", desc := "()I" } : Jvm.MethodName) prog_1_method_42_code (1 : Nat) (Option.some Jvm.ClassFile.FieldType.int)) ∈ lwg := tb_6 108 rfl rfl
theorem W_6_109 : (Jvm.Cond.methodLink "SyncTree" (346 : Nat) ({ cls := "SyncTree$Disk", name := "losePower", desc := "()V" } : Jvm.MethodName)) ∈ lwg := tb_6 109 rfl rfl
theorem W_6_110 : (Jvm.Cond.methodLink "SyncTreeLaw" (220 : Nat) ({ cls := "SyncTreeLaw", name := "recover", desc := "(LSyncTree;[J)I" } : Jvm.MethodName)) ∈ lwg := tb_6 110 rfl rfl
theorem W_6_111 : (Jvm.Cond.static ({ cls := "SyncTreeLaw", name := "recover", desc := "(LSyncTree;[J)I" } : Jvm.MethodName)) ∈ lwg := tb_6 111 rfl rfl
theorem W_6_112 : (Jvm.Cond.codeWith ({ cls := "SyncTreeLaw", name := "recover", desc := "(LSyncTree;[J)I" } : Jvm.MethodName) method_29_code (3 : Nat) (Option.some Jvm.ClassFile.FieldType.int) [((0 : Nat), (8 : Nat), (11 : Nat), (13 : Nat))]) ∈ lwg := tb_6 112 rfl rfl
theorem W_6_113 : (Jvm.Cond.methodLink "SyncTreeLaw" (96 : Nat) ({ cls := "SyncTree", name := "recover", desc := "()I" } : Jvm.MethodName)) ∈ lwg := tb_6 113 rfl rfl
theorem W_6_114 : (Jvm.Cond.instanceMethod ({ cls := "SyncTree", name := "recover", desc := "()I" } : Jvm.MethodName)) ∈ lwg := tb_6 114 rfl rfl
theorem W_6_115 : (Jvm.Cond.selects "SyncTree" ({ cls := "SyncTree", name := "recover", desc := "()I" } : Jvm.MethodName) ({ cls := "SyncTree", name := "recover", desc := "()I" } : Jvm.MethodName)) ∈ lwg := tb_6 115 rfl rfl
theorem W_6_116 : (Jvm.Cond.code ({ cls := "SyncTree", name := "recover", desc := "()I" } : Jvm.MethodName) prog_1_method_45_code (2 : Nat) (Option.some Jvm.ClassFile.FieldType.int)) ∈ lwg := tb_6 116 rfl rfl
theorem W_6_117 : (Jvm.Cond.methodLink "SyncTree" (365 : Nat) ({ cls := "SyncTree$Journal", name := "replay", desc := "()I" } : Jvm.MethodName)) ∈ lwg := tb_6 117 rfl rfl
theorem W_6_118 : (Jvm.Cond.instanceMethod ({ cls := "SyncTree$Journal", name := "replay", desc := "()I" } : Jvm.MethodName)) ∈ lwg := tb_6 118 rfl rfl
theorem W_6_119 : (Jvm.Cond.selects "SyncTree$Journal" ({ cls := "SyncTree$Journal", name := "replay", desc := "()I" } : Jvm.MethodName) ({ cls := "SyncTree$Journal", name := "replay", desc := "()I" } : Jvm.MethodName)) ∈ lwg := tb_6 119 rfl rfl
theorem W_6_120 : (Jvm.Cond.code ({ cls := "SyncTree$Journal", name := "replay", desc := "()I" } : Jvm.MethodName) prog_3_method_20_code (4 : Nat) (Option.some Jvm.ClassFile.FieldType.int)) ∈ lwg := tb_6 120 rfl rfl
theorem W_6_121 : (Jvm.Cond.methodLink "SyncTree$Journal" (209 : Nat) ({ cls := "SyncTree$Disk", name := "settle", desc := "()V" } : Jvm.MethodName)) ∈ lwg := tb_6 121 rfl rfl
theorem W_6_122 : (Jvm.Cond.instanceMethod ({ cls := "SyncTree$Disk", name := "settle", desc := "()V" } : Jvm.MethodName)) ∈ lwg := tb_6 122 rfl rfl
theorem W_6_123 : (Jvm.Cond.selects "SyncTree$Disk" ({ cls := "SyncTree$Disk", name := "settle", desc := "()V" } : Jvm.MethodName) ({ cls := "SyncTree$Disk", name := "settle", desc := "()V" } : Jvm.MethodName)) ∈ lwg := tb_6 123 rfl rfl
theorem W_6_124 : (Jvm.Cond.code ({ cls := "SyncTree$Disk", name := "settle", desc := "()V" } : Jvm.MethodName) prog_2_method_11_code (4 : Nat) (Option.none : Option Jvm.ClassFile.FieldType)) ∈ lwg := tb_6 124 rfl rfl
theorem W_6_125 : (Jvm.Cond.methodLink "SyncTree$Journal" (212 : Nat) ({ cls := "SyncTree$Disk", name := "tagOf", desc := "(I)I" } : Jvm.MethodName)) ∈ lwg := tb_6 125 rfl rfl
theorem W_6_126 : (Jvm.Cond.instanceMethod ({ cls := "SyncTree$Disk", name := "tagOf", desc := "(I)I" } : Jvm.MethodName)) ∈ lwg := tb_6 126 rfl rfl
theorem W_6_127 : (Jvm.Cond.selects "SyncTree$Disk" ({ cls := "SyncTree$Disk", name := "tagOf", desc := "(I)I" } : Jvm.MethodName) ({ cls := "SyncTree$Disk", name := "tagOf", desc := "(I)I" } : Jvm.MethodName)) ∈ lwg := tb_6 127 rfl rfl
theorem W_6_128 : (Jvm.Cond.code ({ cls := "SyncTree$Disk", name := "tagOf", desc := "(I)I" } : Jvm.MethodName) prog_2_method_15_code (2 : Nat) (Option.some Jvm.ClassFile.FieldType.int)) ∈ lwg := tb_6 128 rfl rfl
theorem W_6_129 : (Jvm.Cond.methodLink "SyncTree$Journal" (215 : Nat) ({ cls := "SyncTree$Journal", name := "lastWhole", desc := "(I)I" } : Jvm.MethodName)) ∈ lwg := tb_6 129 rfl rfl
theorem W_6_131 : (Jvm.Cond.instanceMethod ({ cls := "SyncTree$Journal", name := "lastWhole", desc := "(I)I" } : Jvm.MethodName)) ∈ lwg := tb_6 131 rfl rfl
theorem W_6_132 : (Jvm.Cond.code ({ cls := "SyncTree$Journal", name := "lastWhole", desc := "(I)I" } : Jvm.MethodName) prog_3_method_21_code (4 : Nat) (Option.some Jvm.ClassFile.FieldType.int)) ∈ lwg := tb_6 132 rfl rfl
theorem W_6_133 : (Jvm.Cond.methodLink "SyncTree$Journal" (221 : Nat) ({ cls := "SyncTree$Journal", name := "isWhole", desc := "(LSyncTree$Transaction;)Z" } : Jvm.MethodName)) ∈ lwg := tb_6 133 rfl rfl
theorem W_6_135 : (Jvm.Cond.instanceMethod ({ cls := "SyncTree$Journal", name := "isWhole", desc := "(LSyncTree$Transaction;)Z" } : Jvm.MethodName)) ∈ lwg := tb_6 135 rfl rfl
theorem W_6_136 : (Jvm.Cond.code ({ cls := "SyncTree$Journal", name := "isWhole", desc := "(LSyncTree$Transaction;)Z" } : Jvm.MethodName) prog_3_method_22_code (3 : Nat) (Option.some Jvm.ClassFile.FieldType.boolean)) ∈ lwg := tb_6 136 rfl rfl
theorem W_6_137 : (Jvm.Cond.methodLink "SyncTree$Journal" (218 : Nat) ({ cls := "SyncTree$Journal", name := "markReplayed", desc := "(II)V" } : Jvm.MethodName)) ∈ lwg := tb_6 137 rfl rfl
theorem W_6_139 : (Jvm.Cond.instanceMethod ({ cls := "SyncTree$Journal", name := "markReplayed", desc := "(II)V" } : Jvm.MethodName)) ∈ lwg := tb_6 139 rfl rfl
theorem W_6_140 : (Jvm.Cond.code ({ cls := "SyncTree$Journal", name := "markReplayed", desc := "(II)V" } : Jvm.MethodName) prog_3_method_23_code (4 : Nat) (Option.none : Option Jvm.ClassFile.FieldType)) ∈ lwg := tb_6 140 rfl rfl
theorem W_6_141 : (Jvm.Cond.methodLink "SyncTree$Journal" (226 : Nat) ({ cls := "java/util/Arrays", name := "fill", desc := "([BB)V" } : Jvm.MethodName)) ∈ lwg := tb_6 141 rfl rfl
theorem W_6_142 : (Jvm.Cond.methodLink "SyncTree$Journal" (232 : Nat) ({ cls := "SyncTree$Journal", name := "setMarks", desc := "([II)V" } : Jvm.MethodName)) ∈ lwg := tb_6 142 rfl rfl
theorem W_6_144 : (Jvm.Cond.instanceMethod ({ cls := "SyncTree$Journal", name := "setMarks", desc := "([II)V" } : Jvm.MethodName)) ∈ lwg := tb_6 144 rfl rfl
theorem W_6_145 : (Jvm.Cond.code ({ cls := "SyncTree$Journal", name := "setMarks", desc := "([II)V" } : Jvm.MethodName) prog_3_method_24_code (4 : Nat) (Option.none : Option Jvm.ClassFile.FieldType)) ∈ lwg := tb_6 145 rfl rfl
theorem W_6_146 : (Jvm.Cond.methodLink "SyncTree" (368 : Nat) ({ cls := "SyncTree$Loader", name := "loadAll", desc := "()V" } : Jvm.MethodName)) ∈ lwg := tb_6 146 rfl rfl
theorem W_6_147 : (Jvm.Cond.instanceMethod ({ cls := "SyncTree$Loader", name := "loadAll", desc := "()V" } : Jvm.MethodName)) ∈ lwg := tb_6 147 rfl rfl
theorem W_6_148 : (Jvm.Cond.selects "SyncTree$Loader" ({ cls := "SyncTree$Loader", name := "loadAll", desc := "()V" } : Jvm.MethodName) ({ cls := "SyncTree$Loader", name := "loadAll", desc := "()V" } : Jvm.MethodName)) ∈ lwg := tb_6 148 rfl rfl
theorem W_6_149 : (Jvm.Cond.code ({ cls := "SyncTree$Loader", name := "loadAll", desc := "()V" } : Jvm.MethodName) prog_4_method_2_code (3 : Nat) (Option.none : Option Jvm.ClassFile.FieldType)) ∈ lwg := tb_6 149 rfl rfl
theorem W_6_150 : (Jvm.Cond.methodLink "SyncTree$Loader" (27 : Nat) ({ cls := "SyncTree$Journal", name := "baseOf", desc := "(I)LSyncTree$Row;" } : Jvm.MethodName)) ∈ lwg := tb_6 150 rfl rfl
theorem W_6_151 : (Jvm.Cond.instanceMethod ({ cls := "SyncTree$Journal", name := "baseOf", desc := "(I)LSyncTree$Row;" } : Jvm.MethodName)) ∈ lwg := tb_6 151 rfl rfl
theorem W_6_152 : (Jvm.Cond.selects "SyncTree$Journal" ({ cls := "SyncTree$Journal", name := "baseOf", desc := "(I)LSyncTree$Row;" } : Jvm.MethodName) ({ cls := "SyncTree$Journal", name := "baseOf", desc := "(I)LSyncTree$Row;" } : Jvm.MethodName)) ∈ lwg := tb_6 152 rfl rfl
theorem W_6_153 : (Jvm.Cond.code ({ cls := "SyncTree$Journal", name := "baseOf", desc := "(I)LSyncTree$Row;" } : Jvm.MethodName) prog_3_method_8_code (2 : Nat) (Option.some (Jvm.ClassFile.FieldType.object "SyncTree$Row"))) ∈ lwg := tb_6 153 rfl rfl
theorem W_6_154 : (Jvm.Cond.methodLink "SyncTree$Loader" (33 : Nat) ({ cls := "SyncTree$Space", name := "load", desc := "(ILSyncTree$Row;)V" } : Jvm.MethodName)) ∈ lwg := tb_6 154 rfl rfl
theorem W_6_155 : (Jvm.Cond.methodLink "SyncTree$Loader" (39 : Nat) ({ cls := "SyncTree$Space", name := "readMap", desc := "()V" } : Jvm.MethodName)) ∈ lwg := tb_6 155 rfl rfl
theorem W_6_156 : (Jvm.Cond.methodLink "SyncTree$Loader" (42 : Nat) ({ cls := "SyncTree$Tree", name := "kind", desc := "(I)I" } : Jvm.MethodName)) ∈ lwg := tb_6 156 rfl rfl
theorem W_6_157 : (Jvm.Cond.methodLink "SyncTree$Loader" (48 : Nat) ({ cls := "SyncTree$Loader", name := "loadNode", desc := "(I)V" } : Jvm.MethodName)) ∈ lwg := tb_6 157 rfl rfl
theorem W_6_159 : (Jvm.Cond.instanceMethod ({ cls := "SyncTree$Loader", name := "loadNode", desc := "(I)V" } : Jvm.MethodName)) ∈ lwg := tb_6 159 rfl rfl
theorem W_6_160 : (Jvm.Cond.code ({ cls := "SyncTree$Loader", name := "loadNode", desc := "(I)V" } : Jvm.MethodName) prog_4_method_3_code (5 : Nat) (Option.none : Option Jvm.ClassFile.FieldType)) ∈ lwg := tb_6 160 rfl rfl
theorem W_6_161 : (Jvm.Cond.methodLink "SyncTree$Loader" (52 : Nat) ({ cls := "SyncTree$Tree", name := "nodeWord", desc := "(II)J" } : Jvm.MethodName)) ∈ lwg := tb_6 161 rfl rfl
theorem W_6_162 : (Jvm.Cond.methodLink "SyncTree$Loader" (56 : Nat) ({ cls := "SyncTree$Loader", name := "loadBlock", desc := "(IJ)V" } : Jvm.MethodName)) ∈ lwg := tb_6 162 rfl rfl
theorem W_6_164 : (Jvm.Cond.instanceMethod ({ cls := "SyncTree$Loader", name := "loadBlock", desc := "(IJ)V" } : Jvm.MethodName)) ∈ lwg := tb_6 164 rfl rfl
theorem W_6_165 : (Jvm.Cond.code ({ cls := "SyncTree$Loader", name := "loadBlock", desc := "(IJ)V" } : Jvm.MethodName) prog_4_method_5_code (6 : Nat) (Option.none : Option Jvm.ClassFile.FieldType)) ∈ lwg := tb_6 165 rfl rfl
theorem W_6_166 : (Jvm.Cond.methodLink "SyncTree$Loader" (63 : Nat) ({ cls := "SyncTree$Loader", name := "loadMeta", desc := "(IJ)V" } : Jvm.MethodName)) ∈ lwg := tb_6 166 rfl rfl
theorem W_6_168 : (Jvm.Cond.instanceMethod ({ cls := "SyncTree$Loader", name := "loadMeta", desc := "(IJ)V" } : Jvm.MethodName)) ∈ lwg := tb_6 168 rfl rfl
theorem W_6_169 : (Jvm.Cond.code ({ cls := "SyncTree$Loader", name := "loadMeta", desc := "(IJ)V" } : Jvm.MethodName) prog_4_method_6_code (5 : Nat) (Option.none : Option Jvm.ClassFile.FieldType)) ∈ lwg := tb_6 169 rfl rfl
theorem W_6_170 : (Jvm.Cond.methodLink "SyncTree$Loader" (66 : Nat) ({ cls := "SyncTree$Tree", name := "cellOf", desc := "(J)I" } : Jvm.MethodName)) ∈ lwg := tb_6 170 rfl rfl
theorem W_6_171 : (Jvm.Cond.methodLink "SyncTree$Loader" (73 : Nat) ({ cls := "SyncTree$Tree", name := "birthOf", desc := "(J)I" } : Jvm.MethodName)) ∈ lwg := tb_6 171 rfl rfl
theorem W_6_172 : (Jvm.Cond.static ({ cls := "SyncTree$Tree", name := "birthOf", desc := "(J)I" } : Jvm.MethodName)) ∈ lwg := tb_6 172 rfl rfl
theorem W_6_173 : (Jvm.Cond.code ({ cls := "SyncTree$Tree", name := "birthOf", desc := "(J)I" } : Jvm.MethodName) prog_10_method_3_code (2 : Nat) (Option.some Jvm.ClassFile.FieldType.int)) ∈ lwg := tb_6 173 rfl rfl
theorem W_6_174 : (Jvm.Cond.methodLink "SyncTree$Loader" (76 : Nat) ({ cls := "SyncTree$Space", name := "adopt", desc := "(III)V" } : Jvm.MethodName)) ∈ lwg := tb_6 174 rfl rfl
theorem W_6_175 : (Jvm.Cond.methodLink "SyncTree$Loader" (80 : Nat) ({ cls := "SyncTree$Space", name := "numberOf", desc := "(I)I" } : Jvm.MethodName)) ∈ lwg := tb_6 175 rfl rfl
theorem W_6_176 : (Jvm.Cond.methodLink "SyncTree$Loader" (83 : Nat) ({ cls := "SyncTree$Disk", name := "keptSince", desc := "(II)LSyncTree$Row;" } : Jvm.MethodName)) ∈ lwg := tb_6 176 rfl rfl
theorem W_6_177 : (Jvm.Cond.instanceMethod ({ cls := "SyncTree$Disk", name := "keptSince", desc := "(II)LSyncTree$Row;" } : Jvm.MethodName)) ∈ lwg := tb_6 177 rfl rfl
theorem W_6_178 : (Jvm.Cond.selects "SyncTree$Disk" ({ cls := "SyncTree$Disk", name := "keptSince", desc := "(II)LSyncTree$Row;" } : Jvm.MethodName) ({ cls := "SyncTree$Disk", name := "keptSince", desc := "(II)LSyncTree$Row;" } : Jvm.MethodName)) ∈ lwg := tb_6 178 rfl rfl
theorem W_6_179 : (Jvm.Cond.code ({ cls := "SyncTree$Disk", name := "keptSince", desc := "(II)LSyncTree$Row;" } : Jvm.MethodName) prog_2_method_16_code (3 : Nat) (Option.some (Jvm.ClassFile.FieldType.object "SyncTree$Row"))) ∈ lwg := tb_6 179 rfl rfl
theorem W_6_180 : (Jvm.Cond.methodLink "SyncTree$Loader" (60 : Nat) ({ cls := "SyncTree$Loader", name := "loadTable", desc := "(IJ)V" } : Jvm.MethodName)) ∈ lwg := tb_6 180 rfl rfl
theorem W_6_182 : (Jvm.Cond.instanceMethod ({ cls := "SyncTree$Loader", name := "loadTable", desc := "(IJ)V" } : Jvm.MethodName)) ∈ lwg := tb_6 182 rfl rfl
theorem W_6_183 : (Jvm.Cond.code ({ cls := "SyncTree$Loader", name := "loadTable", desc := "(IJ)V" } : Jvm.MethodName) prog_4_method_4_code (5 : Nat) (Option.none : Option Jvm.ClassFile.FieldType)) ∈ lwg := tb_6 183 rfl rfl
theorem W_6_184 : (Jvm.Cond.methodLink "SyncTree$Loader" (70 : Nat) ({ cls := "SyncTree$Space", name := "word", desc := "(II)J" } : Jvm.MethodName)) ∈ lwg := tb_6 184 rfl rfl
theorem W_6_185 : (Jvm.Cond.methodLink "SyncTree" (371 : Nat) ({ cls := "SyncTree$Tree", name := "discardNameless", desc := "()V" } : Jvm.MethodName)) ∈ lwg := tb_6 185 rfl rfl
theorem W_6_186 : (Jvm.Cond.instanceMethod ({ cls := "SyncTree$Tree", name := "discardNameless", desc := "()V" } : Jvm.MethodName)) ∈ lwg := tb_6 186 rfl rfl
theorem W_6_187 : (Jvm.Cond.selects "SyncTree$Tree" ({ cls := "SyncTree$Tree", name := "discardNameless", desc := "()V" } : Jvm.MethodName) ({ cls := "SyncTree$Tree", name := "discardNameless", desc := "()V" } : Jvm.MethodName)) ∈ lwg := tb_6 187 rfl rfl
theorem W_6_188 : (Jvm.Cond.code ({ cls := "SyncTree$Tree", name := "discardNameless", desc := "()V" } : Jvm.MethodName) prog_10_method_24_code (3 : Nat) (Option.none : Option Jvm.ClassFile.FieldType)) ∈ lwg := tb_6 188 rfl rfl
theorem W_6_189 : (Jvm.Cond.methodLink "SyncTree$Tree" (98 : Nat) ({ cls := "SyncTree$Tree", name := "discard", desc := "(I)V" } : Jvm.MethodName)) ∈ lwg := tb_6 189 rfl rfl
theorem W_6_190 : (Jvm.Cond.methodLink "SyncTreeLaw" (122 : Nat) ({ cls := "SyncTreeModel", name := "thrown", desc := "()I" } : Jvm.MethodName)) ∈ lwg := tb_6 190 rfl rfl
theorem W_6_191 : (Jvm.Cond.instanceMethod ({ cls := "SyncTreeModel", name := "thrown", desc := "()I" } : Jvm.MethodName)) ∈ lwg := tb_6 191 rfl rfl
theorem W_6_192 : (Jvm.Cond.selects "SyncTreeModel" ({ cls := "SyncTreeModel", name := "thrown", desc := "()I" } : Jvm.MethodName) ({ cls := "SyncTreeModel", name := "thrown", desc := "()I" } : Jvm.MethodName)) ∈ lwg := tb_6 192 rfl rfl
theorem W_6_193 : (Jvm.Cond.code ({ cls := "SyncTreeModel", name := "thrown", desc := "()I" } : Jvm.MethodName) prog_13_method_1_code (1 : Nat) (Option.some Jvm.ClassFile.FieldType.int)) ∈ lwg := tb_6 193 rfl rfl
theorem W_6_194 : (Jvm.Cond.classLink "SyncTreeLaw" (100 : Nat) "SyncTreeModel") ∈ lwg := tb_6 194 rfl rfl
theorem W_6_195 : (Jvm.Cond.instantiable "SyncTreeModel" (60 : Nat)) ∈ lwg := tb_6 195 rfl rfl
theorem W_6_196 : (Jvm.Cond.methodLink "SyncTreeLaw" (102 : Nat) ({ cls := "SyncTreeModel", name := "<init>", desc := "()V" } : Jvm.MethodName)) ∈ lwg := tb_6 196 rfl rfl
theorem W_6_197 : (Jvm.Cond.instanceMethod ({ cls := "SyncTreeModel", name := "<init>", desc := "()V" } : Jvm.MethodName)) ∈ lwg := tb_6 197 rfl rfl
theorem W_6_198 : (Jvm.Cond.code ({ cls := "SyncTreeModel", name := "<init>", desc := "()V" } : Jvm.MethodName) prog_13_method_66_code (1 : Nat) (Option.none : Option Jvm.ClassFile.FieldType)) ∈ lwg := tb_6 198 rfl rfl
theorem W_6_199 : (Jvm.Cond.methodLink "SyncTreeModel" (382 : Nat) ({ cls := "java/lang/Object", name := "<init>", desc := "()V" } : Jvm.MethodName)) ∈ lwg := tb_6 199 rfl rfl
theorem W_6_200 : (Jvm.Cond.constant "SyncTreeModel" (387 : Nat) (554080 : Int32)) ∈ lwg := tb_6 200 rfl rfl
theorem W_6_201 : (Jvm.Cond.constant "SyncTreeModel" (388 : Nat) (512000 : Int32)) ∈ lwg := tb_6 201 rfl rfl
theorem W_6_202 : (Jvm.Cond.constant "SyncTreeModel" (389 : Nat) (65536 : Int32)) ∈ lwg := tb_6 202 rfl rfl
theorem W_6_203 : (Jvm.Cond.classLink "SyncTreeModel" (390 : Nat) "[B") ∈ lwg := tb_6 203 rfl rfl
theorem W_6_204 : (Jvm.Cond.arrayOver (Jvm.ClassFile.FieldType.array Jvm.ClassFile.FieldType.byte)) ∈ lwg := tb_6 204 rfl rfl
theorem W_6_205 : (Jvm.Cond.methodLink "SyncTreeModel" (397 : Nat) ({ cls := "SyncTreeModel", name := "format", desc := "(II)I" } : Jvm.MethodName)) ∈ lwg := tb_6 205 rfl rfl
theorem W_6_206 : (Jvm.Cond.instanceMethod ({ cls := "SyncTreeModel", name := "format", desc := "(II)I" } : Jvm.MethodName)) ∈ lwg := tb_6 206 rfl rfl
theorem W_6_207 : (Jvm.Cond.selects "SyncTreeModel" ({ cls := "SyncTreeModel", name := "format", desc := "(II)I" } : Jvm.MethodName) ({ cls := "SyncTreeModel", name := "format", desc := "(II)I" } : Jvm.MethodName)) ∈ lwg := tb_6 207 rfl rfl
theorem W_6_208 : (Jvm.Cond.code ({ cls := "SyncTreeModel", name := "format", desc := "(II)I" } : Jvm.MethodName) prog_13_method_67_code (5 : Nat) (Option.some Jvm.ClassFile.FieldType.int)) ∈ lwg := tb_6 208 rfl rfl
theorem W_6_209 : (Jvm.Cond.methodLink "SyncTreeModel" (233 : Nat) ({ cls := "SyncTreeModel", name := "room", desc := "(II)I" } : Jvm.MethodName)) ∈ lwg := tb_6 209 rfl rfl
theorem W_6_210 : (Jvm.Cond.static ({ cls := "SyncTreeModel", name := "room", desc := "(II)I" } : Jvm.MethodName)) ∈ lwg := tb_6 210 rfl rfl
theorem W_6_211 : (Jvm.Cond.code ({ cls := "SyncTreeModel", name := "room", desc := "(II)I" } : Jvm.MethodName) prog_13_method_6_code (2 : Nat) (Option.some Jvm.ClassFile.FieldType.int)) ∈ lwg := tb_6 211 rfl rfl
theorem W_6_212 : (Jvm.Cond.methodLink "SyncTreeModel" (187 : Nat) ({ cls := "SyncTreeModel", name := "emptyGroup", desc := "()V" } : Jvm.MethodName)) ∈ lwg := tb_6 212 rfl rfl
theorem W_6_214 : (Jvm.Cond.instanceMethod ({ cls := "SyncTreeModel", name := "emptyGroup", desc := "()V" } : Jvm.MethodName)) ∈ lwg := tb_6 214 rfl rfl
theorem W_6_215 : (Jvm.Cond.code ({ cls := "SyncTreeModel", name := "emptyGroup", desc := "()V" } : Jvm.MethodName) prog_13_method_22_code (2 : Nat) (Option.none : Option Jvm.ClassFile.FieldType)) ∈ lwg := tb_6 215 rfl rfl
theorem W_6_216 : (Jvm.Cond.methodLink "SyncTreeModel" (164 : Nat) ({ cls := "SyncTreeModel", name := "blocks", desc := "()I" } : Jvm.MethodName)) ∈ lwg := tb_6 216 rfl rfl
theorem W_6_218 : (Jvm.Cond.instanceMethod ({ cls := "SyncTreeModel", name := "blocks", desc := "()I" } : Jvm.MethodName)) ∈ lwg := tb_6 218 rfl rfl
theorem W_6_219 : (Jvm.Cond.code ({ cls := "SyncTreeModel", name := "blocks", desc := "()I" } : Jvm.MethodName) prog_13_method_7_code (1 : Nat) (Option.some Jvm.ClassFile.FieldType.int)) ∈ lwg := tb_6 219 rfl rfl
theorem W_6_220 : (Jvm.Cond.fieldLink "SyncTreeModel" (3 : Nat) "SyncTreeModel" "thrown" "I") ∈ lwg := tb_6 220 rfl rfl
theorem W_6_221 : (Jvm.Cond.fieldLink "SyncTreeModel" (13 : Nat) "SyncTreeModel" "mem" "[I") ∈ lwg := tb_6 221 rfl rfl
theorem W_6_222 : (Jvm.Cond.fieldLink "SyncTreeModel" (20 : Nat) "SyncTreeModel" "undoAt" "[I") ∈ lwg := tb_6 222 rfl rfl
theorem W_6_223 : (Jvm.Cond.fieldLink "SyncTreeModel" (27 : Nat) "SyncTreeModel" "undoWas" "[I") ∈ lwg := tb_6 223 rfl rfl
theorem W_6_224 : (Jvm.Cond.fieldLink "SyncTreeModel" (17 : Nat) "SyncTreeModel" "undone" "I") ∈ lwg := tb_6 224 rfl rfl
theorem W_6_225 : (Jvm.Cond.fieldLink "SyncTreeModel" (38 : Nat) "SyncTreeModel" "log" "I") ∈ lwg := tb_6 225 rfl rfl
theorem W_6_226 : (Jvm.Cond.fieldLink "SyncTreeModel" (41 : Nat) "SyncTreeModel" "rooms" "I") ∈ lwg := tb_6 226 rfl rfl
theorem W_6_227 : (Jvm.Cond.fieldLink "SyncTreeModel" (68 : Nat) "SyncTreeModel" "keptWhat" "[I") ∈ lwg := tb_6 227 rfl rfl
theorem W_6_228 : (Jvm.Cond.fieldLink "SyncTreeModel" (74 : Nat) "SyncTreeModel" "keptId" "[I") ∈ lwg := tb_6 228 rfl rfl
theorem W_6_229 : (Jvm.Cond.fieldLink "SyncTreeModel" (84 : Nat) "SyncTreeModel" "keptBytes" "[B") ∈ lwg := tb_6 229 rfl rfl
theorem W_6_230 : (Jvm.Cond.fieldLink "SyncTreeModel" (65 : Nat) "SyncTreeModel" "verBlock" "[I") ∈ lwg := tb_6 230 rfl rfl
theorem W_6_231 : (Jvm.Cond.fieldLink "SyncTreeModel" (71 : Nat) "SyncTreeModel" "verWhat" "[I") ∈ lwg := tb_6 231 rfl rfl
theorem W_6_232 : (Jvm.Cond.fieldLink "SyncTreeModel" (77 : Nat) "SyncTreeModel" "verId" "[I") ∈ lwg := tb_6 232 rfl rfl
theorem W_6_233 : (Jvm.Cond.fieldLink "SyncTreeModel" (80 : Nat) "SyncTreeModel" "verBytes" "[B") ∈ lwg := tb_6 233 rfl rfl
theorem W_6_234 : (Jvm.Cond.fieldLink "SyncTreeModel" (87 : Nat) "SyncTreeModel" "oldest" "I") ∈ lwg := tb_6 234 rfl rfl
theorem W_6_235 : (Jvm.Cond.fieldLink "SyncTreeModel" (93 : Nat) "SyncTreeModel" "versions" "I") ∈ lwg := tb_6 235 rfl rfl
theorem W_6_236 : (Jvm.Cond.fieldLink "SyncTreeModel" (62 : Nat) "SyncTreeModel" "choice" "[I") ∈ lwg := tb_6 236 rfl rfl
theorem W_6_237 : (Jvm.Cond.fieldLink "SyncTreeModel" (58 : Nat) "SyncTreeModel" "on" "Z") ∈ lwg := tb_6 237 rfl rfl
theorem W_6_238 : (Jvm.Cond.fieldLink "SyncTreeModel" (44 : Nat) "SyncTreeModel" "cutLeft" "I") ∈ lwg := tb_6 238 rfl rfl
theorem W_6_239 : (Jvm.Cond.fieldLink "SyncTreeModel" (55 : Nat) "SyncTreeModel" "acts" "I") ∈ lwg := tb_6 239 rfl rfl
theorem W_7_0 : (Jvm.Cond.fieldLink "SyncTreeModel" (105 : Nat) "SyncTreeModel" "flushes" "I") ∈ lwg := tb_7 0 rfl rfl
theorem W_7_1 : (Jvm.Cond.fieldLink "SyncTreeModel" (102 : Nat) "SyncTreeModel" "now" "[B") ∈ lwg := tb_7 1 rfl rfl
theorem W_7_2 : (Jvm.Cond.fieldLink "SyncTreeModel" (244 : Nat) "SyncTreeModel" "dirty" "[Z") ∈ lwg := tb_7 2 rfl rfl
theorem W_7_3 : (Jvm.Cond.fieldLink "SyncTreeModel" (190 : Nat) "SyncTreeModel" "retired" "[I") ∈ lwg := tb_7 3 rfl rfl
theorem W_7_4 : (Jvm.Cond.fieldLink "SyncTreeModel" (193 : Nat) "SyncTreeModel" "changed" "[Z") ∈ lwg := tb_7 4 rfl rfl
theorem W_7_5 : (Jvm.Cond.fieldLink "SyncTreeModel" (108 : Nat) "SyncTreeModel" "touched" "[Z") ∈ lwg := tb_7 5 rfl rfl
theorem W_7_6 : (Jvm.Cond.fieldLink "SyncTreeModel" (116 : Nat) "SyncTreeModel" "revoked" "[Z") ∈ lwg := tb_7 6 rfl rfl
theorem W_7_7 : (Jvm.Cond.fieldLink "SyncTreeModel" (122 : Nat) "SyncTreeModel" "latest" "I") ∈ lwg := tb_7 7 rfl rfl
theorem W_7_8 : (Jvm.Cond.fieldLink "SyncTreeModel" (199 : Nat) "SyncTreeModel" "durable" "I") ∈ lwg := tb_7 8 rfl rfl
theorem W_7_9 : (Jvm.Cond.fieldLink "SyncTreeModel" (208 : Nat) "SyncTreeModel" "applied" "I") ∈ lwg := tb_7 9 rfl rfl
theorem W_7_10 : (Jvm.Cond.fieldLink "SyncTreeModel" (202 : Nat) "SyncTreeModel" "tail" "I") ∈ lwg := tb_7 10 rfl rfl
theorem W_7_11 : (Jvm.Cond.fieldLink "SyncTreeModel" (119 : Nat) "SyncTreeModel" "keptTail" "I") ∈ lwg := tb_7 11 rfl rfl
theorem W_7_12 : (Jvm.Cond.fieldLink "SyncTreeModel" (161 : Nat) "SyncTreeModel" "headAt" "I") ∈ lwg := tb_7 12 rfl rfl
theorem W_7_13 : (Jvm.Cond.fieldLink "SyncTreeModel" (158 : Nat) "SyncTreeModel" "serial" "I") ∈ lwg := tb_7 13 rfl rfl
theorem W_7_14 : (Jvm.Cond.fieldLink "SyncTreeModel" (128 : Nat) "SyncTreeModel" "base" "I") ∈ lwg := tb_7 14 rfl rfl
theorem W_7_15 : (Jvm.Cond.fieldLink "SyncTreeModel" (137 : Nat) "SyncTreeModel" "records" "I") ∈ lwg := tb_7 15 rfl rfl
theorem W_7_16 : (Jvm.Cond.fieldLink "SyncTreeModel" (140 : Nat) "SyncTreeModel" "tId" "[I") ∈ lwg := tb_7 16 rfl rfl
theorem W_7_17 : (Jvm.Cond.fieldLink "SyncTreeModel" (143 : Nat) "SyncTreeModel" "tAt" "[I") ∈ lwg := tb_7 17 rfl rfl
theorem W_7_18 : (Jvm.Cond.fieldLink "SyncTreeModel" (125 : Nat) "SyncTreeModel" "tSize" "[I") ∈ lwg := tb_7 18 rfl rfl
theorem W_7_19 : (Jvm.Cond.fieldLink "SyncTreeModel" (146 : Nat) "SyncTreeModel" "tChanges" "[I") ∈ lwg := tb_7 19 rfl rfl
theorem W_7_20 : (Jvm.Cond.fieldLink "SyncTreeModel" (149 : Nat) "SyncTreeModel" "tFrom" "[I") ∈ lwg := tb_7 20 rfl rfl
theorem W_7_21 : (Jvm.Cond.fieldLink "SyncTreeModel" (152 : Nat) "SyncTreeModel" "tTouched" "[I") ∈ lwg := tb_7 21 rfl rfl
theorem W_7_22 : (Jvm.Cond.fieldLink "SyncTreeModel" (155 : Nat) "SyncTreeModel" "tRevoked" "[I") ∈ lwg := tb_7 22 rfl rfl
theorem W_7_23 : (Jvm.Cond.fieldLink "SyncTreeModel" (134 : Nat) "SyncTreeModel" "lists" "[I") ∈ lwg := tb_7 23 rfl rfl
theorem W_7_24 : (Jvm.Cond.fieldLink "SyncTreeModel" (131 : Nat) "SyncTreeModel" "listed" "I") ∈ lwg := tb_7 24 rfl rfl
theorem W_7_25 : (Jvm.Cond.fieldLink "SyncTreeModel" (217 : Nat) "SyncTreeModel" "headEnd" "I") ∈ lwg := tb_7 25 rfl rfl
theorem W_7_26 : (Jvm.Cond.fieldLink "SyncTreeModel" (323 : Nat) "SyncTreeModel" "paths" "[[B") ∈ lwg := tb_7 26 rfl rfl
theorem W_7_27 : (Jvm.Cond.fieldLink "SyncTreeModel" (346 : Nat) "SyncTreeModel" "lengths" "[I") ∈ lwg := tb_7 27 rfl rfl
theorem W_7_28 : (Jvm.Cond.fieldLink "SyncTreeModel" (327 : Nat) "SyncTreeModel" "todo" "[B") ∈ lwg := tb_7 28 rfl rfl
theorem W_7_29 : (Jvm.Cond.fieldLink "SyncTreeModel" (333 : Nat) "SyncTreeModel" "other" "[B") ∈ lwg := tb_7 29 rfl rfl
theorem W_7_30 : (Jvm.Cond.fieldLink "SyncTreeModel" (330 : Nat) "SyncTreeModel" "todoSize" "I") ∈ lwg := tb_7 30 rfl rfl
theorem W_7_31 : (Jvm.Cond.fieldLink "SyncTreeModel" (358 : Nat) "SyncTreeModel" "last" "[B") ∈ lwg := tb_7 31 rfl rfl
theorem W_7_32 : (Jvm.Cond.fieldLink "SyncTreeModel" (355 : Nat) "SyncTreeModel" "lastSize" "I") ∈ lwg := tb_7 32 rfl rfl
theorem W_7_33 : (Jvm.Cond.fieldLink "SyncTreeModel" (361 : Nat) "SyncTreeModel" "seen" "[I") ∈ lwg := tb_7 33 rfl rfl
theorem W_7_34 : (Jvm.Cond.fieldLink "SyncTreeModel" (370 : Nat) "SyncTreeModel" "by" "[I") ∈ lwg := tb_7 34 rfl rfl
theorem W_7_35 : (Jvm.Cond.fieldLink "SyncTreeModel" (391 : Nat) "SyncTreeModel" "tape" "[B") ∈ lwg := tb_7 35 rfl rfl
theorem W_7_36 : (Jvm.Cond.fieldLink "SyncTreeModel" (400 : Nat) "SyncTreeModel" "taped" "I") ∈ lwg := tb_7 36 rfl rfl
theorem W_7_37 : (Jvm.Cond.fieldLink "SyncTreeModel" (286 : Nat) "SyncTreeModel" "handles" "[I") ∈ lwg := tb_7 37 rfl rfl
theorem W_7_38 : (Jvm.Cond.fieldLink "SyncTreeModel" (394 : Nat) "SyncTreeModel" "its" "[Z") ∈ lwg := tb_7 38 rfl rfl
theorem W_7_39 : (Jvm.Cond.lays "SyncTreeModel" "SyncTreeModel" "thrown" "I") ∈ lwg := tb_7 39 rfl rfl
theorem W_7_41 : (Jvm.Cond.laysFinal "SyncTreeModel" "SyncTreeModel" "mem" "[I") ∈ lwg := tb_7 41 rfl rfl
theorem W_7_43 : (Jvm.Cond.lays "SyncTreeModel" "SyncTreeModel" "undoAt" "[I") ∈ lwg := tb_7 43 rfl rfl
theorem W_7_45 : (Jvm.Cond.lays "SyncTreeModel" "SyncTreeModel" "undoWas" "[I") ∈ lwg := tb_7 45 rfl rfl
theorem W_7_47 : (Jvm.Cond.lays "SyncTreeModel" "SyncTreeModel" "undone" "I") ∈ lwg := tb_7 47 rfl rfl
theorem W_7_49 : (Jvm.Cond.lays "SyncTreeModel" "SyncTreeModel" "marks" "I") ∈ lwg := tb_7 49 rfl rfl
theorem W_7_51 : (Jvm.Cond.lays "SyncTreeModel" "SyncTreeModel" "log" "I") ∈ lwg := tb_7 51 rfl rfl
theorem W_7_53 : (Jvm.Cond.lays "SyncTreeModel" "SyncTreeModel" "rooms" "I") ∈ lwg := tb_7 53 rfl rfl
theorem W_7_55 : (Jvm.Cond.laysFinal "SyncTreeModel" "SyncTreeModel" "keptWhat" "[I") ∈ lwg := tb_7 55 rfl rfl
theorem W_7_57 : (Jvm.Cond.laysFinal "SyncTreeModel" "SyncTreeModel" "keptId" "[I") ∈ lwg := tb_7 57 rfl rfl
theorem W_7_59 : (Jvm.Cond.laysFinal "SyncTreeModel" "SyncTreeModel" "keptBytes" "[B") ∈ lwg := tb_7 59 rfl rfl
theorem W_7_61 : (Jvm.Cond.laysFinal "SyncTreeModel" "SyncTreeModel" "verBlock" "[I") ∈ lwg := tb_7 61 rfl rfl
theorem W_7_63 : (Jvm.Cond.laysFinal "SyncTreeModel" "SyncTreeModel" "verWhat" "[I") ∈ lwg := tb_7 63 rfl rfl
theorem W_7_65 : (Jvm.Cond.laysFinal "SyncTreeModel" "SyncTreeModel" "verId" "[I") ∈ lwg := tb_7 65 rfl rfl
theorem W_7_67 : (Jvm.Cond.laysFinal "SyncTreeModel" "SyncTreeModel" "verBytes" "[B") ∈ lwg := tb_7 67 rfl rfl
theorem W_7_69 : (Jvm.Cond.lays "SyncTreeModel" "SyncTreeModel" "oldest" "I") ∈ lwg := tb_7 69 rfl rfl
theorem W_7_71 : (Jvm.Cond.lays "SyncTreeModel" "SyncTreeModel" "versions" "I") ∈ lwg := tb_7 71 rfl rfl
theorem W_7_73 : (Jvm.Cond.laysFinal "SyncTreeModel" "SyncTreeModel" "choice" "[I") ∈ lwg := tb_7 73 rfl rfl
theorem W_7_75 : (Jvm.Cond.lays "SyncTreeModel" "SyncTreeModel" "on" "Z") ∈ lwg := tb_7 75 rfl rfl
theorem W_7_77 : (Jvm.Cond.lays "SyncTreeModel" "SyncTreeModel" "cutLeft" "I") ∈ lwg := tb_7 77 rfl rfl
theorem W_7_79 : (Jvm.Cond.lays "SyncTreeModel" "SyncTreeModel" "acts" "I") ∈ lwg := tb_7 79 rfl rfl
theorem W_7_81 : (Jvm.Cond.lays "SyncTreeModel" "SyncTreeModel" "flushes" "I") ∈ lwg := tb_7 81 rfl rfl
theorem W_7_83 : (Jvm.Cond.laysFinal "SyncTreeModel" "SyncTreeModel" "now" "[B") ∈ lwg := tb_7 83 rfl rfl
theorem W_7_85 : (Jvm.Cond.laysFinal "SyncTreeModel" "SyncTreeModel" "dirty" "[Z") ∈ lwg := tb_7 85 rfl rfl
theorem W_7_87 : (Jvm.Cond.laysFinal "SyncTreeModel" "SyncTreeModel" "retired" "[I") ∈ lwg := tb_7 87 rfl rfl
theorem W_7_89 : (Jvm.Cond.laysFinal "SyncTreeModel" "SyncTreeModel" "changed" "[Z") ∈ lwg := tb_7 89 rfl rfl
theorem W_7_91 : (Jvm.Cond.laysFinal "SyncTreeModel" "SyncTreeModel" "touched" "[Z") ∈ lwg := tb_7 91 rfl rfl
theorem W_7_93 : (Jvm.Cond.laysFinal "SyncTreeModel" "SyncTreeModel" "revoked" "[Z") ∈ lwg := tb_7 93 rfl rfl
theorem W_7_95 : (Jvm.Cond.lays "SyncTreeModel" "SyncTreeModel" "latest" "I") ∈ lwg := tb_7 95 rfl rfl
theorem W_7_97 : (Jvm.Cond.lays "SyncTreeModel" "SyncTreeModel" "durable" "I") ∈ lwg := tb_7 97 rfl rfl
theorem W_7_99 : (Jvm.Cond.lays "SyncTreeModel" "SyncTreeModel" "applied" "I") ∈ lwg := tb_7 99 rfl rfl
theorem W_7_101 : (Jvm.Cond.lays "SyncTreeModel" "SyncTreeModel" "tail" "I") ∈ lwg := tb_7 101 rfl rfl
theorem W_7_103 : (Jvm.Cond.lays "SyncTreeModel" "SyncTreeModel" "keptTail" "I") ∈ lwg := tb_7 103 rfl rfl
theorem W_7_105 : (Jvm.Cond.lays "SyncTreeModel" "SyncTreeModel" "headAt" "I") ∈ lwg := tb_7 105 rfl rfl
theorem W_7_107 : (Jvm.Cond.lays "SyncTreeModel" "SyncTreeModel" "serial" "I") ∈ lwg := tb_7 107 rfl rfl
theorem W_7_109 : (Jvm.Cond.lays "SyncTreeModel" "SyncTreeModel" "base" "I") ∈ lwg := tb_7 109 rfl rfl
theorem W_7_111 : (Jvm.Cond.lays "SyncTreeModel" "SyncTreeModel" "records" "I") ∈ lwg := tb_7 111 rfl rfl
theorem W_7_113 : (Jvm.Cond.lays "SyncTreeModel" "SyncTreeModel" "tId" "[I") ∈ lwg := tb_7 113 rfl rfl
theorem W_7_115 : (Jvm.Cond.lays "SyncTreeModel" "SyncTreeModel" "tAt" "[I") ∈ lwg := tb_7 115 rfl rfl
theorem W_7_117 : (Jvm.Cond.lays "SyncTreeModel" "SyncTreeModel" "tSize" "[I") ∈ lwg := tb_7 117 rfl rfl
theorem W_7_119 : (Jvm.Cond.lays "SyncTreeModel" "SyncTreeModel" "tChanges" "[I") ∈ lwg := tb_7 119 rfl rfl
theorem W_7_121 : (Jvm.Cond.lays "SyncTreeModel" "SyncTreeModel" "tFrom" "[I") ∈ lwg := tb_7 121 rfl rfl
theorem W_7_123 : (Jvm.Cond.lays "SyncTreeModel" "SyncTreeModel" "tTouched" "[I") ∈ lwg := tb_7 123 rfl rfl
theorem W_7_125 : (Jvm.Cond.lays "SyncTreeModel" "SyncTreeModel" "tRevoked" "[I") ∈ lwg := tb_7 125 rfl rfl
theorem W_7_127 : (Jvm.Cond.lays "SyncTreeModel" "SyncTreeModel" "lists" "[I") ∈ lwg := tb_7 127 rfl rfl
theorem W_7_129 : (Jvm.Cond.lays "SyncTreeModel" "SyncTreeModel" "listed" "I") ∈ lwg := tb_7 129 rfl rfl
theorem W_7_131 : (Jvm.Cond.lays "SyncTreeModel" "SyncTreeModel" "headEnd" "I") ∈ lwg := tb_7 131 rfl rfl
theorem W_7_133 : (Jvm.Cond.laysFinal "SyncTreeModel" "SyncTreeModel" "paths" "[[B") ∈ lwg := tb_7 133 rfl rfl
theorem W_7_135 : (Jvm.Cond.laysFinal "SyncTreeModel" "SyncTreeModel" "lengths" "[I") ∈ lwg := tb_7 135 rfl rfl
theorem W_7_137 : (Jvm.Cond.lays "SyncTreeModel" "SyncTreeModel" "todo" "[B") ∈ lwg := tb_7 137 rfl rfl
theorem W_7_139 : (Jvm.Cond.lays "SyncTreeModel" "SyncTreeModel" "other" "[B") ∈ lwg := tb_7 139 rfl rfl
theorem W_7_141 : (Jvm.Cond.lays "SyncTreeModel" "SyncTreeModel" "todoSize" "I") ∈ lwg := tb_7 141 rfl rfl
theorem W_7_143 : (Jvm.Cond.laysFinal "SyncTreeModel" "SyncTreeModel" "last" "[B") ∈ lwg := tb_7 143 rfl rfl
theorem W_7_145 : (Jvm.Cond.lays "SyncTreeModel" "SyncTreeModel" "lastSize" "I") ∈ lwg := tb_7 145 rfl rfl
theorem W_7_147 : (Jvm.Cond.laysFinal "SyncTreeModel" "SyncTreeModel" "seen" "[I") ∈ lwg := tb_7 147 rfl rfl
theorem W_7_149 : (Jvm.Cond.laysFinal "SyncTreeModel" "SyncTreeModel" "by" "[I") ∈ lwg := tb_7 149 rfl rfl
theorem W_7_151 : (Jvm.Cond.laysFinal "SyncTreeModel" "SyncTreeModel" "tape" "[B") ∈ lwg := tb_7 151 rfl rfl
theorem W_7_153 : (Jvm.Cond.lays "SyncTreeModel" "SyncTreeModel" "taped" "I") ∈ lwg := tb_7 153 rfl rfl
theorem W_7_155 : (Jvm.Cond.laysFinal "SyncTreeModel" "SyncTreeModel" "handles" "[I") ∈ lwg := tb_7 155 rfl rfl
theorem W_7_157 : (Jvm.Cond.laysFinal "SyncTreeModel" "SyncTreeModel" "its" "[Z") ∈ lwg := tb_7 157 rfl rfl
theorem W_7_160 : (Jvm.Cond.methodLink "SyncTreeLaw" (106 : Nat) ({ cls := "SyncTreeModel", name := "format", desc := "(II)I" } : Jvm.MethodName)) ∈ lwg := tb_7 160 rfl rfl
theorem W_7_161 : (Jvm.Cond.methodLink "SyncTreeLaw" (111 : Nat) ({ cls := "SyncTreeModel", name := "feed", desc := "(IIIII)I" } : Jvm.MethodName)) ∈ lwg := tb_7 161 rfl rfl
theorem W_7_162 : (Jvm.Cond.instanceMethod ({ cls := "SyncTreeModel", name := "feed", desc := "(IIIII)I" } : Jvm.MethodName)) ∈ lwg := tb_7 162 rfl rfl
theorem W_7_163 : (Jvm.Cond.selects "SyncTreeModel" ({ cls := "SyncTreeModel", name := "feed", desc := "(IIIII)I" } : Jvm.MethodName) ({ cls := "SyncTreeModel", name := "feed", desc := "(IIIII)I" } : Jvm.MethodName)) ∈ lwg := tb_7 163 rfl rfl
theorem W_7_164 : (Jvm.Cond.code ({ cls := "SyncTreeModel", name := "feed", desc := "(IIIII)I" } : Jvm.MethodName) prog_13_method_68_code (8 : Nat) (Option.some Jvm.ClassFile.FieldType.int)) ∈ lwg := tb_7 164 rfl rfl
theorem W_7_165 : (Jvm.Cond.methodLink "SyncTreeLaw" (115 : Nat) ({ cls := "SyncTreeModel", name := "path", desc := "(II)I" } : Jvm.MethodName)) ∈ lwg := tb_7 165 rfl rfl
theorem W_7_166 : (Jvm.Cond.instanceMethod ({ cls := "SyncTreeModel", name := "path", desc := "(II)I" } : Jvm.MethodName)) ∈ lwg := tb_7 166 rfl rfl
theorem W_7_167 : (Jvm.Cond.selects "SyncTreeModel" ({ cls := "SyncTreeModel", name := "path", desc := "(II)I" } : Jvm.MethodName) ({ cls := "SyncTreeModel", name := "path", desc := "(II)I" } : Jvm.MethodName)) ∈ lwg := tb_7 167 rfl rfl
theorem W_7_168 : (Jvm.Cond.code ({ cls := "SyncTreeModel", name := "path", desc := "(II)I" } : Jvm.MethodName) prog_13_method_69_code (5 : Nat) (Option.some Jvm.ClassFile.FieldType.int)) ∈ lwg := tb_7 168 rfl rfl
theorem W_7_169 : (Jvm.Cond.methodLink "SyncTreeModel" (7 : Nat) ({ cls := "java/lang/System", name := "arraycopy", desc := "(Ljava/lang/Object;ILjava/lang/Object;II)V" } : Jvm.MethodName)) ∈ lwg := tb_7 169 rfl rfl
theorem W_7_170 : (Jvm.Cond.methodLink "SyncTreeLaw" (121 : Nat) ({ cls := "SyncTreeModel", name := "create", desc := "()I" } : Jvm.MethodName)) ∈ lwg := tb_7 170 rfl rfl
theorem W_7_171 : (Jvm.Cond.instanceMethod ({ cls := "SyncTreeModel", name := "create", desc := "()I" } : Jvm.MethodName)) ∈ lwg := tb_7 171 rfl rfl
theorem W_7_172 : (Jvm.Cond.selects "SyncTreeModel" ({ cls := "SyncTreeModel", name := "create", desc := "()I" } : Jvm.MethodName) ({ cls := "SyncTreeModel", name := "create", desc := "()I" } : Jvm.MethodName)) ∈ lwg := tb_7 172 rfl rfl
theorem W_7_173 : (Jvm.Cond.codeWith ({ cls := "SyncTreeModel", name := "create", desc := "()I" } : Jvm.MethodName) prog_13_method_74_code (2 : Nat) (Option.some Jvm.ClassFile.FieldType.int) [((5 : Nat), (14 : Nat), (15 : Nat), (425 : Nat))]) ∈ lwg := tb_7 173 rfl rfl
theorem W_7_174 : (Jvm.Cond.classLink "SyncTreeModel" (425 : Nat) "SyncTreeModel$Off") ∈ lwg := tb_7 174 rfl rfl
theorem W_7_175 : (Jvm.Cond.methodLink "SyncTreeModel" (419 : Nat) ({ cls := "SyncTreeModel", name := "upAhead", desc := "()V" } : Jvm.MethodName)) ∈ lwg := tb_7 175 rfl rfl
theorem W_7_177 : (Jvm.Cond.instanceMethod ({ cls := "SyncTreeModel", name := "upAhead", desc := "()V" } : Jvm.MethodName)) ∈ lwg := tb_7 177 rfl rfl
theorem W_7_178 : (Jvm.Cond.code ({ cls := "SyncTreeModel", name := "upAhead", desc := "()V" } : Jvm.MethodName) prog_13_method_71_code (1 : Nat) (Option.none : Option Jvm.ClassFile.FieldType)) ∈ lwg := tb_7 178 rfl rfl
theorem W_7_179 : (Jvm.Cond.methodLink "SyncTreeModel" (403 : Nat) ({ cls := "SyncTreeModel", name := "up", desc := "()V" } : Jvm.MethodName)) ∈ lwg := tb_7 179 rfl rfl
theorem W_7_181 : (Jvm.Cond.instanceMethod ({ cls := "SyncTreeModel", name := "up", desc := "()V" } : Jvm.MethodName)) ∈ lwg := tb_7 181 rfl rfl
theorem W_7_182 : (Jvm.Cond.code ({ cls := "SyncTreeModel", name := "up", desc := "()V" } : Jvm.MethodName) prog_13_method_70_code (1 : Nat) (Option.none : Option Jvm.ClassFile.FieldType)) ∈ lwg := tb_7 182 rfl rfl
theorem W_7_183 : (Jvm.Cond.fieldLink "SyncTreeModel" (51 : Nat) "SyncTreeModel" "OFF" "LSyncTreeModel$Off;") ∈ lwg := tb_7 183 rfl rfl
theorem W_7_185 : (Jvm.Cond.methodLink "SyncTreeModel" (406 : Nat) ({ cls := "SyncTreeModel", name := "postAhead", desc := "()V" } : Jvm.MethodName)) ∈ lwg := tb_7 185 rfl rfl
theorem W_7_187 : (Jvm.Cond.instanceMethod ({ cls := "SyncTreeModel", name := "postAhead", desc := "()V" } : Jvm.MethodName)) ∈ lwg := tb_7 187 rfl rfl
theorem W_7_188 : (Jvm.Cond.code ({ cls := "SyncTreeModel", name := "postAhead", desc := "()V" } : Jvm.MethodName) prog_13_method_28_code (1 : Nat) (Option.none : Option Jvm.ClassFile.FieldType)) ∈ lwg := tb_7 188 rfl rfl
theorem W_7_189 : (Jvm.Cond.methodLink "SyncTreeModel" (171 : Nat) ({ cls := "SyncTreeModel", name := "groupSize", desc := "()I" } : Jvm.MethodName)) ∈ lwg := tb_7 189 rfl rfl
theorem W_7_191 : (Jvm.Cond.instanceMethod ({ cls := "SyncTreeModel", name := "groupSize", desc := "()I" } : Jvm.MethodName)) ∈ lwg := tb_7 191 rfl rfl
theorem W_7_192 : (Jvm.Cond.code ({ cls := "SyncTreeModel", name := "groupSize", desc := "()I" } : Jvm.MethodName) prog_13_method_17_code (3 : Nat) (Option.some Jvm.ClassFile.FieldType.int)) ∈ lwg := tb_7 192 rfl rfl
theorem W_7_193 : (Jvm.Cond.methodLink "SyncTreeModel" (112 : Nat) ({ cls := "SyncTreeModel", name := "count", desc := "([Z)I" } : Jvm.MethodName)) ∈ lwg := tb_7 193 rfl rfl
theorem W_7_194 : (Jvm.Cond.static ({ cls := "SyncTreeModel", name := "count", desc := "([Z)I" } : Jvm.MethodName)) ∈ lwg := tb_7 194 rfl rfl
theorem W_7_195 : (Jvm.Cond.code ({ cls := "SyncTreeModel", name := "count", desc := "([Z)I" } : Jvm.MethodName) prog_13_method_16_code (3 : Nat) (Option.some Jvm.ClassFile.FieldType.int)) ∈ lwg := tb_7 195 rfl rfl
theorem W_7_196 : (Jvm.Cond.methodLink "SyncTreeModel" (230 : Nat) ({ cls := "SyncTreeModel", name := "commit", desc := "()V" } : Jvm.MethodName)) ∈ lwg := tb_7 196 rfl rfl
theorem W_7_198 : (Jvm.Cond.instanceMethod ({ cls := "SyncTreeModel", name := "commit", desc := "()V" } : Jvm.MethodName)) ∈ lwg := tb_7 198 rfl rfl
theorem W_7_199 : (Jvm.Cond.code ({ cls := "SyncTreeModel", name := "commit", desc := "()V" } : Jvm.MethodName) prog_13_method_21_code (3 : Nat) (Option.none : Option Jvm.ClassFile.FieldType)) ∈ lwg := tb_7 199 rfl rfl
theorem W_7_200 : (Jvm.Cond.methodLink "SyncTreeModel" (174 : Nat) ({ cls := "SyncTreeModel", name := "freeOfLog", desc := "()I" } : Jvm.MethodName)) ∈ lwg := tb_7 200 rfl rfl
theorem W_7_202 : (Jvm.Cond.instanceMethod ({ cls := "SyncTreeModel", name := "freeOfLog", desc := "()I" } : Jvm.MethodName)) ∈ lwg := tb_7 202 rfl rfl
theorem W_7_203 : (Jvm.Cond.code ({ cls := "SyncTreeModel", name := "freeOfLog", desc := "()I" } : Jvm.MethodName) prog_13_method_18_code (3 : Nat) (Option.some Jvm.ClassFile.FieldType.int)) ∈ lwg := tb_7 203 rfl rfl
theorem W_7_204 : (Jvm.Cond.methodLink "SyncTreeModel" (177 : Nat) ({ cls := "SyncTreeModel", name := "checkpoint", desc := "()V" } : Jvm.MethodName)) ∈ lwg := tb_7 204 rfl rfl
theorem W_7_206 : (Jvm.Cond.instanceMethod ({ cls := "SyncTreeModel", name := "checkpoint", desc := "()V" } : Jvm.MethodName)) ∈ lwg := tb_7 206 rfl rfl
theorem W_7_207 : (Jvm.Cond.code ({ cls := "SyncTreeModel", name := "checkpoint", desc := "()V" } : Jvm.MethodName) prog_13_method_27_code (1 : Nat) (Option.none : Option Jvm.ClassFile.FieldType)) ∈ lwg := tb_7 207 rfl rfl
theorem W_7_208 : (Jvm.Cond.methodLink "SyncTreeModel" (224 : Nat) ({ cls := "SyncTreeModel", name := "flush", desc := "()V" } : Jvm.MethodName)) ∈ lwg := tb_7 208 rfl rfl
theorem W_7_210 : (Jvm.Cond.instanceMethod ({ cls := "SyncTreeModel", name := "flush", desc := "()V" } : Jvm.MethodName)) ∈ lwg := tb_7 210 rfl rfl
theorem W_7_211 : (Jvm.Cond.code ({ cls := "SyncTreeModel", name := "flush", desc := "()V" } : Jvm.MethodName) prog_13_method_23_code (2 : Nat) (Option.none : Option Jvm.ClassFile.FieldType)) ∈ lwg := tb_7 211 rfl rfl
theorem W_7_212 : (Jvm.Cond.methodLink "SyncTreeModel" (196 : Nat) ({ cls := "SyncTreeModel", name := "flushAct", desc := "()V" } : Jvm.MethodName)) ∈ lwg := tb_7 212 rfl rfl
theorem W_7_214 : (Jvm.Cond.instanceMethod ({ cls := "SyncTreeModel", name := "flushAct", desc := "()V" } : Jvm.MethodName)) ∈ lwg := tb_7 214 rfl rfl
theorem W_7_215 : (Jvm.Cond.code ({ cls := "SyncTreeModel", name := "flushAct", desc := "()V" } : Jvm.MethodName) prog_13_method_14_code (1 : Nat) (Option.none : Option Jvm.ClassFile.FieldType)) ∈ lwg := tb_7 215 rfl rfl
theorem W_7_216 : (Jvm.Cond.methodLink "SyncTreeModel" (96 : Nat) ({ cls := "SyncTreeModel", name := "act", desc := "()V" } : Jvm.MethodName)) ∈ lwg := tb_7 216 rfl rfl
theorem W_7_218 : (Jvm.Cond.instanceMethod ({ cls := "SyncTreeModel", name := "act", desc := "()V" } : Jvm.MethodName)) ∈ lwg := tb_7 218 rfl rfl
theorem W_7_219 : (Jvm.Cond.code ({ cls := "SyncTreeModel", name := "act", desc := "()V" } : Jvm.MethodName) prog_13_method_9_code (1 : Nat) (Option.none : Option Jvm.ClassFile.FieldType)) ∈ lwg := tb_7 219 rfl rfl
theorem W_7_220 : (Jvm.Cond.methodLink "SyncTreeModel" (47 : Nat) ({ cls := "SyncTreeModel", name := "powerOff", desc := "()V" } : Jvm.MethodName)) ∈ lwg := tb_7 220 rfl rfl
theorem W_7_222 : (Jvm.Cond.instanceMethod ({ cls := "SyncTreeModel", name := "powerOff", desc := "()V" } : Jvm.MethodName)) ∈ lwg := tb_7 222 rfl rfl
theorem W_7_223 : (Jvm.Cond.code ({ cls := "SyncTreeModel", name := "powerOff", desc := "()V" } : Jvm.MethodName) prog_13_method_10_code (2 : Nat) (Option.none : Option Jvm.ClassFile.FieldType)) ∈ lwg := tb_7 223 rfl rfl
theorem W_7_224 : (Jvm.Cond.methodLink "SyncTreeModel" (99 : Nat) ({ cls := "SyncTreeModel", name := "keepOldest", desc := "()V" } : Jvm.MethodName)) ∈ lwg := tb_7 224 rfl rfl
theorem W_7_226 : (Jvm.Cond.instanceMethod ({ cls := "SyncTreeModel", name := "keepOldest", desc := "()V" } : Jvm.MethodName)) ∈ lwg := tb_7 226 rfl rfl
theorem W_7_227 : (Jvm.Cond.code ({ cls := "SyncTreeModel", name := "keepOldest", desc := "()V" } : Jvm.MethodName) prog_13_method_12_code (1 : Nat) (Option.none : Option Jvm.ClassFile.FieldType)) ∈ lwg := tb_7 227 rfl rfl
theorem W_7_228 : (Jvm.Cond.methodLink "SyncTreeModel" (90 : Nat) ({ cls := "SyncTreeModel", name := "keep", desc := "(I)V" } : Jvm.MethodName)) ∈ lwg := tb_7 228 rfl rfl
theorem W_7_230 : (Jvm.Cond.instanceMethod ({ cls := "SyncTreeModel", name := "keep", desc := "(I)V" } : Jvm.MethodName)) ∈ lwg := tb_7 230 rfl rfl
theorem W_7_231 : (Jvm.Cond.code ({ cls := "SyncTreeModel", name := "keep", desc := "(I)V" } : Jvm.MethodName) prog_13_method_11_code (3 : Nat) (Option.none : Option Jvm.ClassFile.FieldType)) ∈ lwg := tb_7 231 rfl rfl
theorem W_7_232 : (Jvm.Cond.methodLink "SyncTreeModel" (205 : Nat) ({ cls := "SyncTreeModel", name := "forget", desc := "()V" } : Jvm.MethodName)) ∈ lwg := tb_7 232 rfl rfl
theorem W_7_234 : (Jvm.Cond.instanceMethod ({ cls := "SyncTreeModel", name := "forget", desc := "()V" } : Jvm.MethodName)) ∈ lwg := tb_7 234 rfl rfl
theorem W_7_235 : (Jvm.Cond.code ({ cls := "SyncTreeModel", name := "forget", desc := "()V" } : Jvm.MethodName) prog_13_method_24_code (5 : Nat) (Option.none : Option Jvm.ClassFile.FieldType)) ∈ lwg := tb_7 235 rfl rfl
theorem W_7_236 : (Jvm.Cond.methodLink "SyncTreeModel" (211 : Nat) ({ cls := "java/lang/Math", name := "max", desc := "(II)I" } : Jvm.MethodName)) ∈ lwg := tb_7 236 rfl rfl
theorem W_7_237 : (Jvm.Cond.methodLink "SyncTreeModel" (183 : Nat) ({ cls := "SyncTreeModel", name := "version", desc := "(III)V" } : Jvm.MethodName)) ∈ lwg := tb_7 237 rfl rfl
theorem W_7_239 : (Jvm.Cond.instanceMethod ({ cls := "SyncTreeModel", name := "version", desc := "(III)V" } : Jvm.MethodName)) ∈ lwg := tb_7 239 rfl rfl
theorem W_8_0 : (Jvm.Cond.code ({ cls := "SyncTreeModel", name := "version", desc := "(III)V" } : Jvm.MethodName) prog_13_method_13_code (5 : Nat) (Option.none : Option Jvm.ClassFile.FieldType)) ∈ lwg := tb_8 0 rfl rfl
theorem W_8_1 : (Jvm.Cond.methodLink "SyncTreeModel" (227 : Nat) ({ cls := "SyncTreeModel", name := "applyOne", desc := "()V" } : Jvm.MethodName)) ∈ lwg := tb_8 1 rfl rfl
theorem W_8_3 : (Jvm.Cond.instanceMethod ({ cls := "SyncTreeModel", name := "applyOne", desc := "()V" } : Jvm.MethodName)) ∈ lwg := tb_8 3 rfl rfl
theorem W_8_4 : (Jvm.Cond.code ({ cls := "SyncTreeModel", name := "applyOne", desc := "()V" } : Jvm.MethodName) prog_13_method_26_code (7 : Nat) (Option.none : Option Jvm.ClassFile.FieldType)) ∈ lwg := tb_8 4 rfl rfl
theorem W_8_5 : (Jvm.Cond.methodLink "SyncTreeModel" (220 : Nat) ({ cls := "SyncTreeModel", name := "isRevoked", desc := "(II)Z" } : Jvm.MethodName)) ∈ lwg := tb_8 5 rfl rfl
theorem W_8_7 : (Jvm.Cond.instanceMethod ({ cls := "SyncTreeModel", name := "isRevoked", desc := "(II)Z" } : Jvm.MethodName)) ∈ lwg := tb_8 7 rfl rfl
theorem W_8_8 : (Jvm.Cond.code ({ cls := "SyncTreeModel", name := "isRevoked", desc := "(II)Z" } : Jvm.MethodName) prog_13_method_25_code (5 : Nat) (Option.some Jvm.ClassFile.FieldType.boolean)) ∈ lwg := tb_8 8 rfl rfl
theorem W_8_9 : (Jvm.Cond.methodLink "SyncTreeModel" (180 : Nat) ({ cls := "SyncTreeModel", name := "record", desc := "(I)V" } : Jvm.MethodName)) ∈ lwg := tb_8 9 rfl rfl
theorem W_8_11 : (Jvm.Cond.instanceMethod ({ cls := "SyncTreeModel", name := "record", desc := "(I)V" } : Jvm.MethodName)) ∈ lwg := tb_8 11 rfl rfl
theorem W_8_12 : (Jvm.Cond.code ({ cls := "SyncTreeModel", name := "record", desc := "(I)V" } : Jvm.MethodName) prog_13_method_20_code (4 : Nat) (Option.none : Option Jvm.ClassFile.FieldType)) ∈ lwg := tb_8 12 rfl rfl
theorem W_8_13 : (Jvm.Cond.methodLink "SyncTreeModel" (23 : Nat) ({ cls := "SyncTreeModel", name := "longer", desc := "([II)[I" } : Jvm.MethodName)) ∈ lwg := tb_8 13 rfl rfl
theorem W_8_14 : (Jvm.Cond.static ({ cls := "SyncTreeModel", name := "longer", desc := "([II)[I" } : Jvm.MethodName)) ∈ lwg := tb_8 14 rfl rfl
theorem W_8_15 : (Jvm.Cond.code ({ cls := "SyncTreeModel", name := "longer", desc := "([II)[I" } : Jvm.MethodName) prog_13_method_2_code (3 : Nat) (Option.some (Jvm.ClassFile.FieldType.array Jvm.ClassFile.FieldType.int))) ∈ lwg := tb_8 15 rfl rfl
theorem W_8_16 : (Jvm.Cond.methodLink "SyncTreeModel" (168 : Nat) ({ cls := "SyncTreeModel", name := "list", desc := "(I)V" } : Jvm.MethodName)) ∈ lwg := tb_8 16 rfl rfl
theorem W_8_18 : (Jvm.Cond.instanceMethod ({ cls := "SyncTreeModel", name := "list", desc := "(I)V" } : Jvm.MethodName)) ∈ lwg := tb_8 18 rfl rfl
theorem W_8_19 : (Jvm.Cond.code ({ cls := "SyncTreeModel", name := "list", desc := "(I)V" } : Jvm.MethodName) prog_13_method_19_code (2 : Nat) (Option.none : Option Jvm.ClassFile.FieldType)) ∈ lwg := tb_8 19 rfl rfl
theorem W_8_20 : (Jvm.Cond.methodLink "SyncTreeModel" (422 : Nat) ({ cls := "SyncTreeModel", name := "make", desc := "(I)I" } : Jvm.MethodName)) ∈ lwg := tb_8 20 rfl rfl
theorem W_8_22 : (Jvm.Cond.instanceMethod ({ cls := "SyncTreeModel", name := "make", desc := "(I)I" } : Jvm.MethodName)) ∈ lwg := tb_8 22 rfl rfl
theorem W_8_23 : (Jvm.Cond.code ({ cls := "SyncTreeModel", name := "make", desc := "(I)I" } : Jvm.MethodName) prog_13_method_73_code (4 : Nat) (Option.some Jvm.ClassFile.FieldType.int)) ∈ lwg := tb_8 23 rfl rfl
theorem W_8_24 : (Jvm.Cond.methodLink "SyncTreeModel" (409 : Nat) ({ cls := "SyncTreeModel", name := "walkAhead", desc := "(I)I" } : Jvm.MethodName)) ∈ lwg := tb_8 24 rfl rfl
theorem W_8_26 : (Jvm.Cond.instanceMethod ({ cls := "SyncTreeModel", name := "walkAhead", desc := "(I)I" } : Jvm.MethodName)) ∈ lwg := tb_8 26 rfl rfl
theorem W_8_27 : (Jvm.Cond.code ({ cls := "SyncTreeModel", name := "walkAhead", desc := "(I)I" } : Jvm.MethodName) prog_13_method_60_code (7 : Nat) (Option.some Jvm.ClassFile.FieldType.int)) ∈ lwg := tb_8 27 rfl rfl
theorem W_8_28 : (Jvm.Cond.methodLink "SyncTreeModel" (349 : Nat) ({ cls := "SyncTreeModel", name := "begin", desc := "(II)V" } : Jvm.MethodName)) ∈ lwg := tb_8 28 rfl rfl
theorem W_8_30 : (Jvm.Cond.instanceMethod ({ cls := "SyncTreeModel", name := "begin", desc := "(II)V" } : Jvm.MethodName)) ∈ lwg := tb_8 30 rfl rfl
theorem W_8_31 : (Jvm.Cond.code ({ cls := "SyncTreeModel", name := "begin", desc := "(II)V" } : Jvm.MethodName) prog_13_method_55_code (3 : Nat) (Option.none : Option Jvm.ClassFile.FieldType)) ∈ lwg := tb_8 31 rfl rfl
theorem W_8_32 : (Jvm.Cond.methodLink "SyncTreeModel" (352 : Nat) ({ cls := "SyncTreeModel", name := "walk", desc := "(Z)I" } : Jvm.MethodName)) ∈ lwg := tb_8 32 rfl rfl
theorem W_8_34 : (Jvm.Cond.instanceMethod ({ cls := "SyncTreeModel", name := "walk", desc := "(Z)I" } : Jvm.MethodName)) ∈ lwg := tb_8 34 rfl rfl
theorem W_8_35 : (Jvm.Cond.code ({ cls := "SyncTreeModel", name := "walk", desc := "(Z)I" } : Jvm.MethodName) prog_13_method_58_code (12 : Nat) (Option.some Jvm.ClassFile.FieldType.int)) ∈ lwg := tb_8 35 rfl rfl
theorem W_8_36 : (Jvm.Cond.methodLink "SyncTreeModel" (336 : Nat) ({ cls := "SyncTreeModel", name := "behind", desc := "(I)I" } : Jvm.MethodName)) ∈ lwg := tb_8 36 rfl rfl
theorem W_8_38 : (Jvm.Cond.instanceMethod ({ cls := "SyncTreeModel", name := "behind", desc := "(I)I" } : Jvm.MethodName)) ∈ lwg := tb_8 38 rfl rfl
theorem W_8_39 : (Jvm.Cond.code ({ cls := "SyncTreeModel", name := "behind", desc := "(I)I" } : Jvm.MethodName) prog_13_method_56_code (3 : Nat) (Option.some Jvm.ClassFile.FieldType.int)) ∈ lwg := tb_8 39 rfl rfl
theorem W_8_40 : (Jvm.Cond.methodLink "SyncTreeModel" (247 : Nat) ({ cls := "SyncTreeModel", name := "node", desc := "(II)I" } : Jvm.MethodName)) ∈ lwg := tb_8 40 rfl rfl
theorem W_8_42 : (Jvm.Cond.instanceMethod ({ cls := "SyncTreeModel", name := "node", desc := "(II)I" } : Jvm.MethodName)) ∈ lwg := tb_8 42 rfl rfl
theorem W_8_43 : (Jvm.Cond.code ({ cls := "SyncTreeModel", name := "node", desc := "(II)I" } : Jvm.MethodName) prog_13_method_4_code (3 : Nat) (Option.some Jvm.ClassFile.FieldType.int)) ∈ lwg := tb_8 43 rfl rfl
theorem W_8_44 : (Jvm.Cond.methodLink "SyncTreeModel" (339 : Nat) ({ cls := "SyncTreeModel", name := "find", desc := "(I[BII)I" } : Jvm.MethodName)) ∈ lwg := tb_8 44 rfl rfl
theorem W_8_46 : (Jvm.Cond.instanceMethod ({ cls := "SyncTreeModel", name := "find", desc := "(I[BII)I" } : Jvm.MethodName)) ∈ lwg := tb_8 46 rfl rfl
theorem W_8_47 : (Jvm.Cond.code ({ cls := "SyncTreeModel", name := "find", desc := "(I[BII)I" } : Jvm.MethodName) prog_13_method_48_code (9 : Nat) (Option.some Jvm.ClassFile.FieldType.int)) ∈ lwg := tb_8 47 rfl rfl
theorem W_8_48 : (Jvm.Cond.methodLink "SyncTreeModel" (299 : Nat) ({ cls := "SyncTreeModel", name := "entries", desc := "(I)I" } : Jvm.MethodName)) ∈ lwg := tb_8 48 rfl rfl
theorem W_8_50 : (Jvm.Cond.instanceMethod ({ cls := "SyncTreeModel", name := "entries", desc := "(I)I" } : Jvm.MethodName)) ∈ lwg := tb_8 50 rfl rfl
theorem W_8_51 : (Jvm.Cond.code ({ cls := "SyncTreeModel", name := "entries", desc := "(I)I" } : Jvm.MethodName) prog_13_method_47_code (2 : Nat) (Option.some Jvm.ClassFile.FieldType.int)) ∈ lwg := tb_8 51 rfl rfl
theorem W_8_52 : (Jvm.Cond.methodLink "SyncTreeModel" (302 : Nat) ({ cls := "SyncTreeModel", name := "entryNode", desc := "(II)I" } : Jvm.MethodName)) ∈ lwg := tb_8 52 rfl rfl
theorem W_8_54 : (Jvm.Cond.instanceMethod ({ cls := "SyncTreeModel", name := "entryNode", desc := "(II)I" } : Jvm.MethodName)) ∈ lwg := tb_8 54 rfl rfl
theorem W_8_55 : (Jvm.Cond.code ({ cls := "SyncTreeModel", name := "entryNode", desc := "(II)I" } : Jvm.MethodName) prog_13_method_46_code (3 : Nat) (Option.some Jvm.ClassFile.FieldType.int)) ∈ lwg := tb_8 55 rfl rfl
theorem W_8_56 : (Jvm.Cond.methodLink "SyncTreeModel" (295 : Nat) ({ cls := "SyncTreeModel", name := "entryAt", desc := "(III)I" } : Jvm.MethodName)) ∈ lwg := tb_8 56 rfl rfl
theorem W_8_58 : (Jvm.Cond.instanceMethod ({ cls := "SyncTreeModel", name := "entryAt", desc := "(III)I" } : Jvm.MethodName)) ∈ lwg := tb_8 58 rfl rfl
theorem W_8_59 : (Jvm.Cond.code ({ cls := "SyncTreeModel", name := "entryAt", desc := "(III)I" } : Jvm.MethodName) prog_13_method_45_code (4 : Nat) (Option.some Jvm.ClassFile.FieldType.int)) ∈ lwg := tb_8 59 rfl rfl
theorem W_8_60 : (Jvm.Cond.methodLink "SyncTreeModel" (259 : Nat) ({ cls := "SyncTreeModel", name := "has", desc := "(II)I" } : Jvm.MethodName)) ∈ lwg := tb_8 60 rfl rfl
theorem W_8_62 : (Jvm.Cond.instanceMethod ({ cls := "SyncTreeModel", name := "has", desc := "(II)I" } : Jvm.MethodName)) ∈ lwg := tb_8 62 rfl rfl
theorem W_8_63 : (Jvm.Cond.code ({ cls := "SyncTreeModel", name := "has", desc := "(II)I" } : Jvm.MethodName) prog_13_method_37_code (4 : Nat) (Option.some Jvm.ClassFile.FieldType.int)) ∈ lwg := tb_8 63 rfl rfl
theorem W_8_64 : (Jvm.Cond.methodLink "SyncTreeModel" (253 : Nat) ({ cls := "SyncTreeModel", name := "leafOf", desc := "(II)I" } : Jvm.MethodName)) ∈ lwg := tb_8 64 rfl rfl
theorem W_8_66 : (Jvm.Cond.instanceMethod ({ cls := "SyncTreeModel", name := "leafOf", desc := "(II)I" } : Jvm.MethodName)) ∈ lwg := tb_8 66 rfl rfl
theorem W_8_67 : (Jvm.Cond.code ({ cls := "SyncTreeModel", name := "leafOf", desc := "(II)I" } : Jvm.MethodName) prog_13_method_35_code (4 : Nat) (Option.some Jvm.ClassFile.FieldType.int)) ∈ lwg := tb_8 67 rfl rfl
theorem W_8_68 : (Jvm.Cond.methodLink "SyncTreeModel" (250 : Nat) ({ cls := "SyncTreeModel", name := "pointer", desc := "(II)I" } : Jvm.MethodName)) ∈ lwg := tb_8 68 rfl rfl
theorem W_8_70 : (Jvm.Cond.instanceMethod ({ cls := "SyncTreeModel", name := "pointer", desc := "(II)I" } : Jvm.MethodName)) ∈ lwg := tb_8 70 rfl rfl
theorem W_8_71 : (Jvm.Cond.code ({ cls := "SyncTreeModel", name := "pointer", desc := "(II)I" } : Jvm.MethodName) prog_13_method_33_code (3 : Nat) (Option.some Jvm.ClassFile.FieldType.int)) ∈ lwg := tb_8 71 rfl rfl
theorem W_8_72 : (Jvm.Cond.methodLink "SyncTreeModel" (256 : Nat) ({ cls := "SyncTreeModel", name := "placeOf", desc := "(I)I" } : Jvm.MethodName)) ∈ lwg := tb_8 72 rfl rfl
theorem W_8_73 : (Jvm.Cond.static ({ cls := "SyncTreeModel", name := "placeOf", desc := "(I)I" } : Jvm.MethodName)) ∈ lwg := tb_8 73 rfl rfl
theorem W_8_74 : (Jvm.Cond.code ({ cls := "SyncTreeModel", name := "placeOf", desc := "(I)I" } : Jvm.MethodName) prog_13_method_36_code (1 : Nat) (Option.some Jvm.ClassFile.FieldType.int)) ∈ lwg := tb_8 74 rfl rfl
theorem W_8_75 : (Jvm.Cond.methodLink "SyncTreeModel" (343 : Nat) ({ cls := "SyncTreeModel", name := "expand", desc := "(II)V" } : Jvm.MethodName)) ∈ lwg := tb_8 75 rfl rfl
theorem W_8_77 : (Jvm.Cond.instanceMethod ({ cls := "SyncTreeModel", name := "expand", desc := "(II)V" } : Jvm.MethodName)) ∈ lwg := tb_8 77 rfl rfl
theorem W_8_78 : (Jvm.Cond.code ({ cls := "SyncTreeModel", name := "expand", desc := "(II)V" } : Jvm.MethodName) prog_13_method_57_code (6 : Nat) (Option.none : Option Jvm.ClassFile.FieldType)) ∈ lwg := tb_8 78 rfl rfl
theorem W_8_79 : (Jvm.Cond.methodLink "SyncTreeModel" (412 : Nat) ({ cls := "SyncTreeModel", name := "lacks", desc := "(I)Z" } : Jvm.MethodName)) ∈ lwg := tb_8 79 rfl rfl
theorem W_8_81 : (Jvm.Cond.instanceMethod ({ cls := "SyncTreeModel", name := "lacks", desc := "(I)Z" } : Jvm.MethodName)) ∈ lwg := tb_8 81 rfl rfl
theorem W_8_82 : (Jvm.Cond.code ({ cls := "SyncTreeModel", name := "lacks", desc := "(I)Z" } : Jvm.MethodName) prog_13_method_50_code (3 : Nat) (Option.some Jvm.ClassFile.FieldType.boolean)) ∈ lwg := tb_8 82 rfl rfl
theorem W_8_83 : (Jvm.Cond.methodLink "SyncTreeModel" (305 : Nat) ({ cls := "SyncTreeModel", name := "firstFree", desc := "(I)I" } : Jvm.MethodName)) ∈ lwg := tb_8 83 rfl rfl
theorem W_8_85 : (Jvm.Cond.instanceMethod ({ cls := "SyncTreeModel", name := "firstFree", desc := "(I)I" } : Jvm.MethodName)) ∈ lwg := tb_8 85 rfl rfl
theorem W_8_86 : (Jvm.Cond.code ({ cls := "SyncTreeModel", name := "firstFree", desc := "(I)I" } : Jvm.MethodName) prog_13_method_49_code (4 : Nat) (Option.some Jvm.ClassFile.FieldType.int)) ∈ lwg := tb_8 86 rfl rfl
theorem W_8_87 : (Jvm.Cond.methodLink "SyncTreeModel" (308 : Nat) ({ cls := "SyncTreeModel", name := "needs", desc := "(III)I" } : Jvm.MethodName)) ∈ lwg := tb_8 87 rfl rfl
theorem W_8_89 : (Jvm.Cond.instanceMethod ({ cls := "SyncTreeModel", name := "needs", desc := "(III)I" } : Jvm.MethodName)) ∈ lwg := tb_8 89 rfl rfl
theorem W_8_90 : (Jvm.Cond.code ({ cls := "SyncTreeModel", name := "needs", desc := "(III)I" } : Jvm.MethodName) prog_13_method_38_code (10 : Nat) (Option.some Jvm.ClassFile.FieldType.int)) ∈ lwg := tb_8 90 rfl rfl
theorem W_8_91 : (Jvm.Cond.methodLink "SyncTreeModel" (311 : Nat) ({ cls := "SyncTreeModel", name := "freeBlocks", desc := "()I" } : Jvm.MethodName)) ∈ lwg := tb_8 91 rfl rfl
theorem W_8_93 : (Jvm.Cond.instanceMethod ({ cls := "SyncTreeModel", name := "freeBlocks", desc := "()I" } : Jvm.MethodName)) ∈ lwg := tb_8 93 rfl rfl
theorem W_8_94 : (Jvm.Cond.code ({ cls := "SyncTreeModel", name := "freeBlocks", desc := "()I" } : Jvm.MethodName) prog_13_method_30_code (3 : Nat) (Option.some Jvm.ClassFile.FieldType.int)) ∈ lwg := tb_8 94 rfl rfl
theorem W_8_95 : (Jvm.Cond.methodLink "SyncTreeModel" (236 : Nat) ({ cls := "SyncTreeModel", name := "isFree", desc := "(I)Z" } : Jvm.MethodName)) ∈ lwg := tb_8 95 rfl rfl
theorem W_8_97 : (Jvm.Cond.instanceMethod ({ cls := "SyncTreeModel", name := "isFree", desc := "(I)Z" } : Jvm.MethodName)) ∈ lwg := tb_8 97 rfl rfl
theorem W_8_98 : (Jvm.Cond.code ({ cls := "SyncTreeModel", name := "isFree", desc := "(I)Z" } : Jvm.MethodName) prog_13_method_29_code (2 : Nat) (Option.some Jvm.ClassFile.FieldType.boolean)) ∈ lwg := tb_8 98 rfl rfl
theorem W_8_99 : (Jvm.Cond.methodLink "SyncTreeModel" (266 : Nat) ({ cls := "SyncTreeModel", name := "putNode", desc := "(III)V" } : Jvm.MethodName)) ∈ lwg := tb_8 99 rfl rfl
theorem W_8_101 : (Jvm.Cond.instanceMethod ({ cls := "SyncTreeModel", name := "putNode", desc := "(III)V" } : Jvm.MethodName)) ∈ lwg := tb_8 101 rfl rfl
theorem W_8_102 : (Jvm.Cond.code ({ cls := "SyncTreeModel", name := "putNode", desc := "(III)V" } : Jvm.MethodName) prog_13_method_5_code (4 : Nat) (Option.none : Option Jvm.ClassFile.FieldType)) ∈ lwg := tb_8 102 rfl rfl
theorem W_8_103 : (Jvm.Cond.methodLink "SyncTreeModel" (30 : Nat) ({ cls := "SyncTreeModel", name := "put", desc := "(II)V" } : Jvm.MethodName)) ∈ lwg := tb_8 103 rfl rfl
theorem W_8_105 : (Jvm.Cond.instanceMethod ({ cls := "SyncTreeModel", name := "put", desc := "(II)V" } : Jvm.MethodName)) ∈ lwg := tb_8 105 rfl rfl
theorem W_8_106 : (Jvm.Cond.code ({ cls := "SyncTreeModel", name := "put", desc := "(II)V" } : Jvm.MethodName) prog_13_method_3_code (3 : Nat) (Option.none : Option Jvm.ClassFile.FieldType)) ∈ lwg := tb_8 106 rfl rfl
theorem W_8_107 : (Jvm.Cond.methodLink "SyncTreeModel" (34 : Nat) ({ cls := "SyncTreeModel", name := "touch", desc := "(I)V" } : Jvm.MethodName)) ∈ lwg := tb_8 107 rfl rfl
theorem W_8_109 : (Jvm.Cond.instanceMethod ({ cls := "SyncTreeModel", name := "touch", desc := "(I)V" } : Jvm.MethodName)) ∈ lwg := tb_8 109 rfl rfl
theorem W_8_110 : (Jvm.Cond.code ({ cls := "SyncTreeModel", name := "touch", desc := "(I)V" } : Jvm.MethodName) prog_13_method_15_code (2 : Nat) (Option.none : Option Jvm.ClassFile.FieldType)) ∈ lwg := tb_8 110 rfl rfl
theorem W_8_111 : (Jvm.Cond.methodLink "SyncTreeModel" (415 : Nat) ({ cls := "SyncTreeModel", name := "addEntry", desc := "(I[BII)V" } : Jvm.MethodName)) ∈ lwg := tb_8 111 rfl rfl
theorem W_8_113 : (Jvm.Cond.instanceMethod ({ cls := "SyncTreeModel", name := "addEntry", desc := "(I[BII)V" } : Jvm.MethodName)) ∈ lwg := tb_8 113 rfl rfl
theorem W_8_114 : (Jvm.Cond.code ({ cls := "SyncTreeModel", name := "addEntry", desc := "(I[BII)V" } : Jvm.MethodName) prog_13_method_52_code (7 : Nat) (Option.none : Option Jvm.ClassFile.FieldType)) ∈ lwg := tb_8 114 rfl rfl
theorem W_8_115 : (Jvm.Cond.methodLink "SyncTreeModel" (314 : Nat) ({ cls := "SyncTreeModel", name := "ensure", desc := "(II)V" } : Jvm.MethodName)) ∈ lwg := tb_8 115 rfl rfl
theorem W_8_117 : (Jvm.Cond.instanceMethod ({ cls := "SyncTreeModel", name := "ensure", desc := "(II)V" } : Jvm.MethodName)) ∈ lwg := tb_8 117 rfl rfl
theorem W_8_118 : (Jvm.Cond.code ({ cls := "SyncTreeModel", name := "ensure", desc := "(II)V" } : Jvm.MethodName) prog_13_method_39_code (4 : Nat) (Option.none : Option Jvm.ClassFile.FieldType)) ∈ lwg := tb_8 118 rfl rfl
theorem W_8_119 : (Jvm.Cond.methodLink "SyncTreeModel" (262 : Nat) ({ cls := "SyncTreeModel", name := "get", desc := "(Z)I" } : Jvm.MethodName)) ∈ lwg := tb_8 119 rfl rfl
theorem W_8_121 : (Jvm.Cond.instanceMethod ({ cls := "SyncTreeModel", name := "get", desc := "(Z)I" } : Jvm.MethodName)) ∈ lwg := tb_8 121 rfl rfl
theorem W_8_122 : (Jvm.Cond.code ({ cls := "SyncTreeModel", name := "get", desc := "(Z)I" } : Jvm.MethodName) prog_13_method_31_code (4 : Nat) (Option.some Jvm.ClassFile.FieldType.int)) ∈ lwg := tb_8 122 rfl rfl
theorem W_8_123 : (Jvm.Cond.methodLink "SyncTreeModel" (240 : Nat) ({ cls := "SyncTreeModel", name := "numberOf", desc := "(I)I" } : Jvm.MethodName)) ∈ lwg := tb_8 123 rfl rfl
theorem W_8_125 : (Jvm.Cond.instanceMethod ({ cls := "SyncTreeModel", name := "numberOf", desc := "(I)I" } : Jvm.MethodName)) ∈ lwg := tb_8 125 rfl rfl
theorem W_8_126 : (Jvm.Cond.code ({ cls := "SyncTreeModel", name := "numberOf", desc := "(I)I" } : Jvm.MethodName) prog_13_method_8_code (2 : Nat) (Option.some Jvm.ClassFile.FieldType.int)) ∈ lwg := tb_8 126 rfl rfl
theorem W_8_127 : (Jvm.Cond.methodLink "SyncTreeModel" (269 : Nat) ({ cls := "SyncTreeModel", name := "putPointer", desc := "(III)V" } : Jvm.MethodName)) ∈ lwg := tb_8 127 rfl rfl
theorem W_8_129 : (Jvm.Cond.instanceMethod ({ cls := "SyncTreeModel", name := "putPointer", desc := "(III)V" } : Jvm.MethodName)) ∈ lwg := tb_8 129 rfl rfl
theorem W_8_130 : (Jvm.Cond.code ({ cls := "SyncTreeModel", name := "putPointer", desc := "(III)V" } : Jvm.MethodName) prog_13_method_34_code (4 : Nat) (Option.none : Option Jvm.ClassFile.FieldType)) ∈ lwg := tb_8 130 rfl rfl
theorem W_8_131 : (Jvm.Cond.methodLink "SyncTreeModel" (317 : Nat) ({ cls := "SyncTreeModel", name := "putEntry", desc := "(III)V" } : Jvm.MethodName)) ∈ lwg := tb_8 131 rfl rfl
theorem W_8_133 : (Jvm.Cond.instanceMethod ({ cls := "SyncTreeModel", name := "putEntry", desc := "(III)V" } : Jvm.MethodName)) ∈ lwg := tb_8 133 rfl rfl
theorem W_8_134 : (Jvm.Cond.code ({ cls := "SyncTreeModel", name := "putEntry", desc := "(III)V" } : Jvm.MethodName) prog_13_method_51_code (4 : Nat) (Option.none : Option Jvm.ClassFile.FieldType)) ∈ lwg := tb_8 134 rfl rfl
theorem W_8_135 : (Jvm.Cond.methodLink "SyncTreeModel" (427 : Nat) ({ cls := "SyncTreeModel", name := "off", desc := "()I" } : Jvm.MethodName)) ∈ lwg := tb_8 135 rfl rfl
theorem W_8_137 : (Jvm.Cond.instanceMethod ({ cls := "SyncTreeModel", name := "off", desc := "()I" } : Jvm.MethodName)) ∈ lwg := tb_8 137 rfl rfl
theorem W_8_138 : (Jvm.Cond.code ({ cls := "SyncTreeModel", name := "off", desc := "()I" } : Jvm.MethodName) prog_13_method_72_code (1 : Nat) (Option.some Jvm.ClassFile.FieldType.int)) ∈ lwg := tb_8 138 rfl rfl
theorem W_8_139 : (Jvm.Cond.methodLink "SyncTreeLaw" (127 : Nat) ({ cls := "SyncTreeModel", name := "mkdir", desc := "()I" } : Jvm.MethodName)) ∈ lwg := tb_8 139 rfl rfl
theorem W_8_140 : (Jvm.Cond.instanceMethod ({ cls := "SyncTreeModel", name := "mkdir", desc := "()I" } : Jvm.MethodName)) ∈ lwg := tb_8 140 rfl rfl
theorem W_8_141 : (Jvm.Cond.selects "SyncTreeModel" ({ cls := "SyncTreeModel", name := "mkdir", desc := "()I" } : Jvm.MethodName) ({ cls := "SyncTreeModel", name := "mkdir", desc := "()I" } : Jvm.MethodName)) ∈ lwg := tb_8 141 rfl rfl
theorem W_8_142 : (Jvm.Cond.codeWith ({ cls := "SyncTreeModel", name := "mkdir", desc := "()I" } : Jvm.MethodName) prog_13_method_75_code (2 : Nat) (Option.some Jvm.ClassFile.FieldType.int) [((5 : Nat), (14 : Nat), (15 : Nat), (425 : Nat))]) ∈ lwg := tb_8 142 rfl rfl
theorem W_8_143 : (Jvm.Cond.methodLink "SyncTreeLaw" (130 : Nat) ({ cls := "SyncTreeModel", name := "symlink", desc := "()I" } : Jvm.MethodName)) ∈ lwg := tb_8 143 rfl rfl
theorem W_8_144 : (Jvm.Cond.instanceMethod ({ cls := "SyncTreeModel", name := "symlink", desc := "()I" } : Jvm.MethodName)) ∈ lwg := tb_8 144 rfl rfl
theorem W_8_145 : (Jvm.Cond.selects "SyncTreeModel" ({ cls := "SyncTreeModel", name := "symlink", desc := "()I" } : Jvm.MethodName) ({ cls := "SyncTreeModel", name := "symlink", desc := "()I" } : Jvm.MethodName)) ∈ lwg := tb_8 145 rfl rfl
theorem W_8_146 : (Jvm.Cond.codeWith ({ cls := "SyncTreeModel", name := "symlink", desc := "()I" } : Jvm.MethodName) prog_13_method_76_code (3 : Nat) (Option.some Jvm.ClassFile.FieldType.int) [((5 : Nat), (32 : Nat), (93 : Nat), (425 : Nat)), ((33 : Nat), (44 : Nat), (93 : Nat), (425 : Nat)), ((45 : Nat), (92 : Nat), (93 : Nat), (425 : Nat))]) ∈ lwg := tb_8 146 rfl rfl
theorem W_8_147 : (Jvm.Cond.methodLink "SyncTreeLaw" (133 : Nat) ({ cls := "SyncTreeModel", name := "link", desc := "()I" } : Jvm.MethodName)) ∈ lwg := tb_8 147 rfl rfl
theorem W_8_148 : (Jvm.Cond.instanceMethod ({ cls := "SyncTreeModel", name := "link", desc := "()I" } : Jvm.MethodName)) ∈ lwg := tb_8 148 rfl rfl
theorem W_8_149 : (Jvm.Cond.selects "SyncTreeModel" ({ cls := "SyncTreeModel", name := "link", desc := "()I" } : Jvm.MethodName) ({ cls := "SyncTreeModel", name := "link", desc := "()I" } : Jvm.MethodName)) ∈ lwg := tb_8 149 rfl rfl
theorem W_8_150 : (Jvm.Cond.codeWith ({ cls := "SyncTreeModel", name := "link", desc := "()I" } : Jvm.MethodName) prog_13_method_77_code (3 : Nat) (Option.some Jvm.ClassFile.FieldType.int) [((5 : Nat), (21 : Nat), (140 : Nat), (425 : Nat)), ((22 : Nat), (34 : Nat), (140 : Nat), (425 : Nat)), ((35 : Nat), (46 : Nat), (140 : Nat), (425 : Nat)), ((47 : Nat), (66 : Nat), (140 : Nat), (425 : Nat)), ((67 : Nat), (78 : Nat), (140 : Nat), (425 : Nat)), ((79 : Nat), (93 : Nat), (140 : Nat), (425 : Nat)), ((94 : Nat), (104 : Nat), (140 : Nat), (425 : Nat)), ((105 : Nat), (139 : Nat), (140 : Nat), (425 : Nat))]) ∈ lwg := tb_8 150 rfl rfl
theorem W_8_151 : (Jvm.Cond.methodLink "SyncTreeModel" (430 : Nat) ({ cls := "SyncTreeModel", name := "walkTo", desc := "(IZ)I" } : Jvm.MethodName)) ∈ lwg := tb_8 151 rfl rfl
theorem W_8_153 : (Jvm.Cond.instanceMethod ({ cls := "SyncTreeModel", name := "walkTo", desc := "(IZ)I" } : Jvm.MethodName)) ∈ lwg := tb_8 153 rfl rfl
theorem W_8_154 : (Jvm.Cond.code ({ cls := "SyncTreeModel", name := "walkTo", desc := "(IZ)I" } : Jvm.MethodName) prog_13_method_59_code (3 : Nat) (Option.some Jvm.ClassFile.FieldType.int)) ∈ lwg := tb_8 154 rfl rfl
theorem W_8_155 : (Jvm.Cond.methodLink "SyncTreeLaw" (136 : Nat) ({ cls := "SyncTreeModel", name := "unlink", desc := "()I" } : Jvm.MethodName)) ∈ lwg := tb_8 155 rfl rfl
theorem W_8_156 : (Jvm.Cond.instanceMethod ({ cls := "SyncTreeModel", name := "unlink", desc := "()I" } : Jvm.MethodName)) ∈ lwg := tb_8 156 rfl rfl
theorem W_8_157 : (Jvm.Cond.selects "SyncTreeModel" ({ cls := "SyncTreeModel", name := "unlink", desc := "()I" } : Jvm.MethodName) ({ cls := "SyncTreeModel", name := "unlink", desc := "()I" } : Jvm.MethodName)) ∈ lwg := tb_8 157 rfl rfl
theorem W_8_158 : (Jvm.Cond.codeWith ({ cls := "SyncTreeModel", name := "unlink", desc := "()I" } : Jvm.MethodName) prog_13_method_79_code (4 : Nat) (Option.some Jvm.ClassFile.FieldType.int) [((5 : Nat), (20 : Nat), (86 : Nat), (425 : Nat)), ((21 : Nat), (32 : Nat), (86 : Nat), (425 : Nat)), ((33 : Nat), (53 : Nat), (86 : Nat), (425 : Nat)), ((54 : Nat), (73 : Nat), (86 : Nat), (425 : Nat)), ((74 : Nat), (85 : Nat), (86 : Nat), (425 : Nat))]) ∈ lwg := tb_8 158 rfl rfl
theorem W_8_159 : (Jvm.Cond.methodLink "SyncTreeModel" (434 : Nat) ({ cls := "SyncTreeModel", name := "removeEntry", desc := "(II)V" } : Jvm.MethodName)) ∈ lwg := tb_8 159 rfl rfl
theorem W_8_161 : (Jvm.Cond.instanceMethod ({ cls := "SyncTreeModel", name := "removeEntry", desc := "(II)V" } : Jvm.MethodName)) ∈ lwg := tb_8 161 rfl rfl
theorem W_8_162 : (Jvm.Cond.code ({ cls := "SyncTreeModel", name := "removeEntry", desc := "(II)V" } : Jvm.MethodName) prog_13_method_54_code (4 : Nat) (Option.none : Option Jvm.ClassFile.FieldType)) ∈ lwg := tb_8 162 rfl rfl
theorem W_8_163 : (Jvm.Cond.methodLink "SyncTreeModel" (320 : Nat) ({ cls := "SyncTreeModel", name := "isBare", desc := "(II)Z" } : Jvm.MethodName)) ∈ lwg := tb_8 163 rfl rfl
theorem W_8_165 : (Jvm.Cond.instanceMethod ({ cls := "SyncTreeModel", name := "isBare", desc := "(II)Z" } : Jvm.MethodName)) ∈ lwg := tb_8 165 rfl rfl
theorem W_8_166 : (Jvm.Cond.code ({ cls := "SyncTreeModel", name := "isBare", desc := "(II)Z" } : Jvm.MethodName) prog_13_method_53_code (4 : Nat) (Option.some Jvm.ClassFile.FieldType.boolean)) ∈ lwg := tb_8 166 rfl rfl
theorem W_8_167 : (Jvm.Cond.methodLink "SyncTreeModel" (283 : Nat) ({ cls := "SyncTreeModel", name := "drop", desc := "(II)V" } : Jvm.MethodName)) ∈ lwg := tb_8 167 rfl rfl
theorem W_8_169 : (Jvm.Cond.instanceMethod ({ cls := "SyncTreeModel", name := "drop", desc := "(II)V" } : Jvm.MethodName)) ∈ lwg := tb_8 169 rfl rfl
theorem W_8_170 : (Jvm.Cond.code ({ cls := "SyncTreeModel", name := "drop", desc := "(II)V" } : Jvm.MethodName) prog_13_method_41_code (7 : Nat) (Option.none : Option Jvm.ClassFile.FieldType)) ∈ lwg := tb_8 170 rfl rfl
theorem W_8_171 : (Jvm.Cond.methodLink "SyncTreeModel" (272 : Nat) ({ cls := "SyncTreeModel", name := "free", desc := "(IZ)V" } : Jvm.MethodName)) ∈ lwg := tb_8 171 rfl rfl
theorem W_8_173 : (Jvm.Cond.instanceMethod ({ cls := "SyncTreeModel", name := "free", desc := "(IZ)V" } : Jvm.MethodName)) ∈ lwg := tb_8 173 rfl rfl
theorem W_8_174 : (Jvm.Cond.code ({ cls := "SyncTreeModel", name := "free", desc := "(IZ)V" } : Jvm.MethodName) prog_13_method_32_code (3 : Nat) (Option.none : Option Jvm.ClassFile.FieldType)) ∈ lwg := tb_8 174 rfl rfl
theorem W_8_175 : (Jvm.Cond.methodLink "SyncTreeModel" (276 : Nat) ({ cls := "SyncTreeModel", name := "isEmpty", desc := "(I)Z" } : Jvm.MethodName)) ∈ lwg := tb_8 175 rfl rfl
theorem W_8_177 : (Jvm.Cond.instanceMethod ({ cls := "SyncTreeModel", name := "isEmpty", desc := "(I)Z" } : Jvm.MethodName)) ∈ lwg := tb_8 177 rfl rfl
theorem W_8_178 : (Jvm.Cond.code ({ cls := "SyncTreeModel", name := "isEmpty", desc := "(I)Z" } : Jvm.MethodName) prog_13_method_40_code (3 : Nat) (Option.some Jvm.ClassFile.FieldType.boolean)) ∈ lwg := tb_8 178 rfl rfl
theorem W_8_179 : (Jvm.Cond.methodLink "SyncTreeModel" (437 : Nat) ({ cls := "SyncTreeModel", name := "lose", desc := "(I)I" } : Jvm.MethodName)) ∈ lwg := tb_8 179 rfl rfl
theorem W_8_181 : (Jvm.Cond.instanceMethod ({ cls := "SyncTreeModel", name := "lose", desc := "(I)I" } : Jvm.MethodName)) ∈ lwg := tb_8 181 rfl rfl
theorem W_8_182 : (Jvm.Cond.code ({ cls := "SyncTreeModel", name := "lose", desc := "(I)I" } : Jvm.MethodName) prog_13_method_78_code (3 : Nat) (Option.some Jvm.ClassFile.FieldType.int)) ∈ lwg := tb_8 182 rfl rfl
theorem W_8_183 : (Jvm.Cond.methodLink "SyncTreeModel" (379 : Nat) ({ cls := "SyncTreeModel", name := "maybeFree", desc := "(I)V" } : Jvm.MethodName)) ∈ lwg := tb_8 183 rfl rfl
theorem W_8_185 : (Jvm.Cond.instanceMethod ({ cls := "SyncTreeModel", name := "maybeFree", desc := "(I)V" } : Jvm.MethodName)) ∈ lwg := tb_8 185 rfl rfl
theorem W_8_186 : (Jvm.Cond.code ({ cls := "SyncTreeModel", name := "maybeFree", desc := "(I)V" } : Jvm.MethodName) prog_13_method_44_code (2 : Nat) (Option.none : Option Jvm.ClassFile.FieldType)) ∈ lwg := tb_8 186 rfl rfl
theorem W_8_187 : (Jvm.Cond.methodLink "SyncTreeModel" (289 : Nat) ({ cls := "SyncTreeModel", name := "isOpen", desc := "(I)Z" } : Jvm.MethodName)) ∈ lwg := tb_8 187 rfl rfl
theorem W_8_189 : (Jvm.Cond.instanceMethod ({ cls := "SyncTreeModel", name := "isOpen", desc := "(I)Z" } : Jvm.MethodName)) ∈ lwg := tb_8 189 rfl rfl
theorem W_8_190 : (Jvm.Cond.code ({ cls := "SyncTreeModel", name := "isOpen", desc := "(I)Z" } : Jvm.MethodName) prog_13_method_43_code (3 : Nat) (Option.some Jvm.ClassFile.FieldType.boolean)) ∈ lwg := tb_8 190 rfl rfl
theorem W_8_191 : (Jvm.Cond.methodLink "SyncTreeModel" (292 : Nat) ({ cls := "SyncTreeModel", name := "setSize", desc := "(II)V" } : Jvm.MethodName)) ∈ lwg := tb_8 191 rfl rfl
theorem W_8_193 : (Jvm.Cond.instanceMethod ({ cls := "SyncTreeModel", name := "setSize", desc := "(II)V" } : Jvm.MethodName)) ∈ lwg := tb_8 193 rfl rfl
theorem W_8_194 : (Jvm.Cond.code ({ cls := "SyncTreeModel", name := "setSize", desc := "(II)V" } : Jvm.MethodName) prog_13_method_42_code (7 : Nat) (Option.none : Option Jvm.ClassFile.FieldType)) ∈ lwg := tb_8 194 rfl rfl
theorem W_8_195 : (Jvm.Cond.methodLink "SyncTreeModel" (279 : Nat) ({ cls := "java/lang/Math", name := "min", desc := "(II)I" } : Jvm.MethodName)) ∈ lwg := tb_8 195 rfl rfl
theorem W_8_196 : (Jvm.Cond.constant "SyncTreeModel" (282 : Nat) (272384 : Int32)) ∈ lwg := tb_8 196 rfl rfl
theorem W_8_197 : (Jvm.Cond.methodLink "SyncTreeLaw" (139 : Nat) ({ cls := "SyncTreeModel", name := "rmdir", desc := "()I" } : Jvm.MethodName)) ∈ lwg := tb_8 197 rfl rfl
theorem W_8_198 : (Jvm.Cond.instanceMethod ({ cls := "SyncTreeModel", name := "rmdir", desc := "()I" } : Jvm.MethodName)) ∈ lwg := tb_8 198 rfl rfl
theorem W_8_199 : (Jvm.Cond.selects "SyncTreeModel" ({ cls := "SyncTreeModel", name := "rmdir", desc := "()I" } : Jvm.MethodName) ({ cls := "SyncTreeModel", name := "rmdir", desc := "()I" } : Jvm.MethodName)) ∈ lwg := tb_8 199 rfl rfl
theorem W_8_200 : (Jvm.Cond.codeWith ({ cls := "SyncTreeModel", name := "rmdir", desc := "()I" } : Jvm.MethodName) prog_13_method_80_code (4 : Nat) (Option.some Jvm.ClassFile.FieldType.int) [((5 : Nat), (20 : Nat), (101 : Nat), (425 : Nat)), ((21 : Nat), (32 : Nat), (101 : Nat), (425 : Nat)), ((33 : Nat), (53 : Nat), (101 : Nat), (425 : Nat)), ((54 : Nat), (73 : Nat), (101 : Nat), (425 : Nat)), ((74 : Nat), (85 : Nat), (101 : Nat), (425 : Nat)), ((86 : Nat), (100 : Nat), (101 : Nat), (425 : Nat))]) ∈ lwg := tb_8 200 rfl rfl
theorem W_8_201 : (Jvm.Cond.methodLink "SyncTreeLaw" (142 : Nat) ({ cls := "SyncTreeModel", name := "rename", desc := "()I" } : Jvm.MethodName)) ∈ lwg := tb_8 201 rfl rfl
theorem W_8_202 : (Jvm.Cond.instanceMethod ({ cls := "SyncTreeModel", name := "rename", desc := "()I" } : Jvm.MethodName)) ∈ lwg := tb_8 202 rfl rfl
theorem W_8_203 : (Jvm.Cond.selects "SyncTreeModel" ({ cls := "SyncTreeModel", name := "rename", desc := "()I" } : Jvm.MethodName) ({ cls := "SyncTreeModel", name := "rename", desc := "()I" } : Jvm.MethodName)) ∈ lwg := tb_8 203 rfl rfl
theorem W_8_204 : (Jvm.Cond.codeWith ({ cls := "SyncTreeModel", name := "rename", desc := "()I" } : Jvm.MethodName) prog_13_method_83_code (8 : Nat) (Option.some Jvm.ClassFile.FieldType.int) [((5 : Nat), (20 : Nat), (245 : Nat), (425 : Nat)), ((21 : Nat), (32 : Nat), (245 : Nat), (425 : Nat)), ((33 : Nat), (53 : Nat), (245 : Nat), (425 : Nat)), ((54 : Nat), (75 : Nat), (245 : Nat), (425 : Nat)), ((76 : Nat), (87 : Nat), (245 : Nat), (425 : Nat)), ((88 : Nat), (131 : Nat), (245 : Nat), (425 : Nat)), ((132 : Nat), (150 : Nat), (245 : Nat), (425 : Nat)), ((151 : Nat), (213 : Nat), (245 : Nat), (425 : Nat)), ((214 : Nat), (244 : Nat), (245 : Nat), (425 : Nat))]) ∈ lwg := tb_8 204 rfl rfl
theorem W_8_205 : (Jvm.Cond.methodLink "SyncTreeModel" (443 : Nat) ({ cls := "SyncTreeModel", name := "mayRename", desc := "(III)I" } : Jvm.MethodName)) ∈ lwg := tb_8 205 rfl rfl
theorem W_8_207 : (Jvm.Cond.instanceMethod ({ cls := "SyncTreeModel", name := "mayRename", desc := "(III)I" } : Jvm.MethodName)) ∈ lwg := tb_8 207 rfl rfl
theorem W_8_208 : (Jvm.Cond.code ({ cls := "SyncTreeModel", name := "mayRename", desc := "(III)I" } : Jvm.MethodName) prog_13_method_82_code (5 : Nat) (Option.some Jvm.ClassFile.FieldType.int)) ∈ lwg := tb_8 208 rfl rfl
theorem W_8_209 : (Jvm.Cond.methodLink "SyncTreeModel" (440 : Nat) ({ cls := "SyncTreeModel", name := "isBelow", desc := "(II)Z" } : Jvm.MethodName)) ∈ lwg := tb_8 209 rfl rfl
theorem W_8_211 : (Jvm.Cond.instanceMethod ({ cls := "SyncTreeModel", name := "isBelow", desc := "(II)Z" } : Jvm.MethodName)) ∈ lwg := tb_8 211 rfl rfl
theorem W_8_212 : (Jvm.Cond.code ({ cls := "SyncTreeModel", name := "isBelow", desc := "(II)Z" } : Jvm.MethodName) prog_13_method_81_code (4 : Nat) (Option.some Jvm.ClassFile.FieldType.boolean)) ∈ lwg := tb_8 212 rfl rfl
theorem W_8_213 : (Jvm.Cond.methodLink "SyncTreeLaw" (145 : Nat) ({ cls := "SyncTreeModel", name := "open", desc := "()I" } : Jvm.MethodName)) ∈ lwg := tb_8 213 rfl rfl
theorem W_8_214 : (Jvm.Cond.instanceMethod ({ cls := "SyncTreeModel", name := "open", desc := "()I" } : Jvm.MethodName)) ∈ lwg := tb_8 214 rfl rfl
theorem W_8_215 : (Jvm.Cond.selects "SyncTreeModel" ({ cls := "SyncTreeModel", name := "open", desc := "()I" } : Jvm.MethodName) ({ cls := "SyncTreeModel", name := "open", desc := "()I" } : Jvm.MethodName)) ∈ lwg := tb_8 215 rfl rfl
theorem W_8_216 : (Jvm.Cond.codeWith ({ cls := "SyncTreeModel", name := "open", desc := "()I" } : Jvm.MethodName) prog_13_method_85_code (3 : Nat) (Option.some Jvm.ClassFile.FieldType.int) [((5 : Nat), (21 : Nat), (73 : Nat), (425 : Nat)), ((22 : Nat), (34 : Nat), (73 : Nat), (425 : Nat)), ((35 : Nat), (63 : Nat), (73 : Nat), (425 : Nat)), ((64 : Nat), (72 : Nat), (73 : Nat), (425 : Nat))]) ∈ lwg := tb_8 216 rfl rfl
theorem W_8_217 : (Jvm.Cond.methodLink "SyncTreeLaw" (149 : Nat) ({ cls := "SyncTreeModel", name := "close", desc := "(I)I" } : Jvm.MethodName)) ∈ lwg := tb_8 217 rfl rfl
theorem W_8_218 : (Jvm.Cond.instanceMethod ({ cls := "SyncTreeModel", name := "close", desc := "(I)I" } : Jvm.MethodName)) ∈ lwg := tb_8 218 rfl rfl
theorem W_8_219 : (Jvm.Cond.selects "SyncTreeModel" ({ cls := "SyncTreeModel", name := "close", desc := "(I)I" } : Jvm.MethodName) ({ cls := "SyncTreeModel", name := "close", desc := "(I)I" } : Jvm.MethodName)) ∈ lwg := tb_8 219 rfl rfl
theorem W_8_220 : (Jvm.Cond.codeWith ({ cls := "SyncTreeModel", name := "close", desc := "(I)I" } : Jvm.MethodName) prog_13_method_86_code (3 : Nat) (Option.some Jvm.ClassFile.FieldType.int) [((5 : Nat), (19 : Nat), (41 : Nat), (425 : Nat)), ((20 : Nat), (40 : Nat), (41 : Nat), (425 : Nat))]) ∈ lwg := tb_8 220 rfl rfl
theorem W_8_221 : (Jvm.Cond.methodLink "SyncTreeModel" (446 : Nat) ({ cls := "SyncTreeModel", name := "isHandle", desc := "(I)Z" } : Jvm.MethodName)) ∈ lwg := tb_8 221 rfl rfl
theorem W_8_223 : (Jvm.Cond.instanceMethod ({ cls := "SyncTreeModel", name := "isHandle", desc := "(I)Z" } : Jvm.MethodName)) ∈ lwg := tb_8 223 rfl rfl
theorem W_8_224 : (Jvm.Cond.code ({ cls := "SyncTreeModel", name := "isHandle", desc := "(I)Z" } : Jvm.MethodName) prog_13_method_84_code (2 : Nat) (Option.some Jvm.ClassFile.FieldType.boolean)) ∈ lwg := tb_8 224 rfl rfl
theorem W_8_225 : (Jvm.Cond.methodLink "SyncTreeLaw" (153 : Nat) ({ cls := "SyncTreeModel", name := "write", desc := "(III)I" } : Jvm.MethodName)) ∈ lwg := tb_8 225 rfl rfl
theorem W_8_226 : (Jvm.Cond.instanceMethod ({ cls := "SyncTreeModel", name := "write", desc := "(III)I" } : Jvm.MethodName)) ∈ lwg := tb_8 226 rfl rfl
theorem W_8_227 : (Jvm.Cond.selects "SyncTreeModel" ({ cls := "SyncTreeModel", name := "write", desc := "(III)I" } : Jvm.MethodName) ({ cls := "SyncTreeModel", name := "write", desc := "(III)I" } : Jvm.MethodName)) ∈ lwg := tb_8 227 rfl rfl
theorem W_8_228 : (Jvm.Cond.codeWith ({ cls := "SyncTreeModel", name := "write", desc := "(III)I" } : Jvm.MethodName) prog_13_method_88_code (6 : Nat) (Option.some Jvm.ClassFile.FieldType.int) [((5 : Nat), (67 : Nat), (68 : Nat), (425 : Nat))]) ∈ lwg := tb_8 228 rfl rfl
theorem W_8_229 : (Jvm.Cond.methodLink "SyncTreeModel" (451 : Nat) ({ cls := "SyncTreeModel", name := "bytes", desc := "(IIII)I" } : Jvm.MethodName)) ∈ lwg := tb_8 229 rfl rfl
theorem W_8_231 : (Jvm.Cond.instanceMethod ({ cls := "SyncTreeModel", name := "bytes", desc := "(IIII)I" } : Jvm.MethodName)) ∈ lwg := tb_8 231 rfl rfl
theorem W_8_232 : (Jvm.Cond.code ({ cls := "SyncTreeModel", name := "bytes", desc := "(IIII)I" } : Jvm.MethodName) prog_13_method_87_code (10 : Nat) (Option.some Jvm.ClassFile.FieldType.int)) ∈ lwg := tb_8 232 rfl rfl
theorem W_8_233 : (Jvm.Cond.constantLong "SyncTreeModel" (449 : Nat) (272384 : Int64)) ∈ lwg := tb_8 233 rfl rfl
theorem W_8_234 : (Jvm.Cond.methodLink "SyncTreeLaw" (157 : Nat) ({ cls := "SyncTreeModel", name := "fill", desc := "(IIII)I" } : Jvm.MethodName)) ∈ lwg := tb_8 234 rfl rfl
theorem W_8_235 : (Jvm.Cond.instanceMethod ({ cls := "SyncTreeModel", name := "fill", desc := "(IIII)I" } : Jvm.MethodName)) ∈ lwg := tb_8 235 rfl rfl
theorem W_8_236 : (Jvm.Cond.selects "SyncTreeModel" ({ cls := "SyncTreeModel", name := "fill", desc := "(IIII)I" } : Jvm.MethodName) ({ cls := "SyncTreeModel", name := "fill", desc := "(IIII)I" } : Jvm.MethodName)) ∈ lwg := tb_8 236 rfl rfl
theorem W_8_237 : (Jvm.Cond.codeWith ({ cls := "SyncTreeModel", name := "fill", desc := "(IIII)I" } : Jvm.MethodName) prog_13_method_89_code (6 : Nat) (Option.some Jvm.ClassFile.FieldType.int) [((5 : Nat), (71 : Nat), (72 : Nat), (425 : Nat))]) ∈ lwg := tb_8 237 rfl rfl
theorem W_8_238 : (Jvm.Cond.methodLink "SyncTreeLaw" (161 : Nat) ({ cls := "SyncTreeModel", name := "truncate", desc := "(II)I" } : Jvm.MethodName)) ∈ lwg := tb_8 238 rfl rfl
theorem W_8_239 : (Jvm.Cond.instanceMethod ({ cls := "SyncTreeModel", name := "truncate", desc := "(II)I" } : Jvm.MethodName)) ∈ lwg := tb_8 239 rfl rfl
theorem W_9_0 : (Jvm.Cond.selects "SyncTreeModel" ({ cls := "SyncTreeModel", name := "truncate", desc := "(II)I" } : Jvm.MethodName) ({ cls := "SyncTreeModel", name := "truncate", desc := "(II)I" } : Jvm.MethodName)) ∈ lwg := tb_9 0 rfl rfl
theorem W_9_1 : (Jvm.Cond.codeWith ({ cls := "SyncTreeModel", name := "truncate", desc := "(II)I" } : Jvm.MethodName) prog_13_method_90_code (4 : Nat) (Option.some Jvm.ClassFile.FieldType.int) [((5 : Nat), (23 : Nat), (47 : Nat), (425 : Nat)), ((24 : Nat), (33 : Nat), (47 : Nat), (425 : Nat)), ((34 : Nat), (46 : Nat), (47 : Nat), (425 : Nat))]) ∈ lwg := tb_9 1 rfl rfl
theorem W_9_2 : (Jvm.Cond.methodLink "SyncTreeLaw" (164 : Nat) ({ cls := "SyncTreeModel", name := "byteAt", desc := "(II)I" } : Jvm.MethodName)) ∈ lwg := tb_9 2 rfl rfl
theorem W_9_3 : (Jvm.Cond.instanceMethod ({ cls := "SyncTreeModel", name := "byteAt", desc := "(II)I" } : Jvm.MethodName)) ∈ lwg := tb_9 3 rfl rfl
theorem W_9_4 : (Jvm.Cond.selects "SyncTreeModel" ({ cls := "SyncTreeModel", name := "byteAt", desc := "(II)I" } : Jvm.MethodName) ({ cls := "SyncTreeModel", name := "byteAt", desc := "(II)I" } : Jvm.MethodName)) ∈ lwg := tb_9 4 rfl rfl
theorem W_9_5 : (Jvm.Cond.codeWith ({ cls := "SyncTreeModel", name := "byteAt", desc := "(II)I" } : Jvm.MethodName) prog_13_method_92_code (4 : Nat) (Option.some Jvm.ClassFile.FieldType.int) [((5 : Nat), (38 : Nat), (51 : Nat), (425 : Nat)), ((39 : Nat), (50 : Nat), (51 : Nat), (425 : Nat))]) ∈ lwg := tb_9 5 rfl rfl
theorem W_9_6 : (Jvm.Cond.methodLink "SyncTreeModel" (455 : Nat) ({ cls := "SyncTreeModel", name := "byteOf", desc := "(II)I" } : Jvm.MethodName)) ∈ lwg := tb_9 6 rfl rfl
theorem W_9_8 : (Jvm.Cond.instanceMethod ({ cls := "SyncTreeModel", name := "byteOf", desc := "(II)I" } : Jvm.MethodName)) ∈ lwg := tb_9 8 rfl rfl
theorem W_9_9 : (Jvm.Cond.code ({ cls := "SyncTreeModel", name := "byteOf", desc := "(II)I" } : Jvm.MethodName) prog_13_method_91_code (4 : Nat) (Option.some Jvm.ClassFile.FieldType.int)) ∈ lwg := tb_9 9 rfl rfl
theorem W_9_10 : (Jvm.Cond.methodLink "SyncTreeLaw" (167 : Nat) ({ cls := "SyncTreeModel", name := "sum", desc := "(III)J" } : Jvm.MethodName)) ∈ lwg := tb_9 10 rfl rfl
theorem W_9_11 : (Jvm.Cond.instanceMethod ({ cls := "SyncTreeModel", name := "sum", desc := "(III)J" } : Jvm.MethodName)) ∈ lwg := tb_9 11 rfl rfl
theorem W_9_12 : (Jvm.Cond.selects "SyncTreeModel" ({ cls := "SyncTreeModel", name := "sum", desc := "(III)J" } : Jvm.MethodName) ({ cls := "SyncTreeModel", name := "sum", desc := "(III)J" } : Jvm.MethodName)) ∈ lwg := tb_9 12 rfl rfl
theorem W_9_13 : (Jvm.Cond.codeWith ({ cls := "SyncTreeModel", name := "sum", desc := "(III)J" } : Jvm.MethodName) prog_13_method_93_code (8 : Nat) (Option.some Jvm.ClassFile.FieldType.long) [((5 : Nat), (35 : Nat), (124 : Nat), (425 : Nat)), ((36 : Nat), (123 : Nat), (124 : Nat), (425 : Nat))]) ∈ lwg := tb_9 13 rfl rfl
theorem W_9_14 : (Jvm.Cond.constantLong "SyncTreeModel" (458 : Nat) (-9 : Int64)) ∈ lwg := tb_9 14 rfl rfl
theorem W_9_15 : (Jvm.Cond.constantLong "SyncTreeModel" (460 : Nat) (4294967295 : Int64)) ∈ lwg := tb_9 15 rfl rfl
theorem W_9_16 : (Jvm.Cond.methodLink "SyncTreeLaw" (171 : Nat) ({ cls := "SyncTreeModel", name := "info", desc := "(IZ)I" } : Jvm.MethodName)) ∈ lwg := tb_9 16 rfl rfl
theorem W_9_17 : (Jvm.Cond.instanceMethod ({ cls := "SyncTreeModel", name := "info", desc := "(IZ)I" } : Jvm.MethodName)) ∈ lwg := tb_9 17 rfl rfl
theorem W_9_18 : (Jvm.Cond.selects "SyncTreeModel" ({ cls := "SyncTreeModel", name := "info", desc := "(IZ)I" } : Jvm.MethodName) ({ cls := "SyncTreeModel", name := "info", desc := "(IZ)I" } : Jvm.MethodName)) ∈ lwg := tb_9 18 rfl rfl
theorem W_9_19 : (Jvm.Cond.codeWith ({ cls := "SyncTreeModel", name := "info", desc := "(IZ)I" } : Jvm.MethodName) prog_13_method_95_code (4 : Nat) (Option.some Jvm.ClassFile.FieldType.int) [((5 : Nat), (21 : Nat), (44 : Nat), (425 : Nat)), ((22 : Nat), (43 : Nat), (44 : Nat), (425 : Nat))]) ∈ lwg := tb_9 19 rfl rfl
theorem W_9_20 : (Jvm.Cond.methodLink "SyncTreeModel" (462 : Nat) ({ cls := "SyncTreeModel", name := "told", desc := "(II)I" } : Jvm.MethodName)) ∈ lwg := tb_9 20 rfl rfl
theorem W_9_22 : (Jvm.Cond.instanceMethod ({ cls := "SyncTreeModel", name := "told", desc := "(II)I" } : Jvm.MethodName)) ∈ lwg := tb_9 22 rfl rfl
theorem W_9_23 : (Jvm.Cond.code ({ cls := "SyncTreeModel", name := "told", desc := "(II)I" } : Jvm.MethodName) prog_13_method_94_code (8 : Nat) (Option.some Jvm.ClassFile.FieldType.int)) ∈ lwg := tb_9 23 rfl rfl
theorem W_9_24 : (Jvm.Cond.methodLink "SyncTreeLaw" (174 : Nat) ({ cls := "SyncTreeModel", name := "infoOf", desc := "(II)I" } : Jvm.MethodName)) ∈ lwg := tb_9 24 rfl rfl
theorem W_9_25 : (Jvm.Cond.instanceMethod ({ cls := "SyncTreeModel", name := "infoOf", desc := "(II)I" } : Jvm.MethodName)) ∈ lwg := tb_9 25 rfl rfl
theorem W_9_26 : (Jvm.Cond.selects "SyncTreeModel" ({ cls := "SyncTreeModel", name := "infoOf", desc := "(II)I" } : Jvm.MethodName) ({ cls := "SyncTreeModel", name := "infoOf", desc := "(II)I" } : Jvm.MethodName)) ∈ lwg := tb_9 26 rfl rfl
theorem W_9_27 : (Jvm.Cond.codeWith ({ cls := "SyncTreeModel", name := "infoOf", desc := "(II)I" } : Jvm.MethodName) prog_13_method_96_code (4 : Nat) (Option.some Jvm.ClassFile.FieldType.int) [((5 : Nat), (43 : Nat), (44 : Nat), (425 : Nat))]) ∈ lwg := tb_9 27 rfl rfl
theorem W_9_28 : (Jvm.Cond.methodLink "SyncTreeLaw" (177 : Nat) ({ cls := "SyncTreeModel", name := "entry", desc := "(II)I" } : Jvm.MethodName)) ∈ lwg := tb_9 28 rfl rfl
theorem W_9_29 : (Jvm.Cond.instanceMethod ({ cls := "SyncTreeModel", name := "entry", desc := "(II)I" } : Jvm.MethodName)) ∈ lwg := tb_9 29 rfl rfl
theorem W_9_30 : (Jvm.Cond.selects "SyncTreeModel" ({ cls := "SyncTreeModel", name := "entry", desc := "(II)I" } : Jvm.MethodName) ({ cls := "SyncTreeModel", name := "entry", desc := "(II)I" } : Jvm.MethodName)) ∈ lwg := tb_9 30 rfl rfl
theorem W_9_31 : (Jvm.Cond.codeWith ({ cls := "SyncTreeModel", name := "entry", desc := "(II)I" } : Jvm.MethodName) prog_13_method_97_code (5 : Nat) (Option.some Jvm.ClassFile.FieldType.int) [((5 : Nat), (16 : Nat), (115 : Nat), (425 : Nat)), ((17 : Nat), (29 : Nat), (115 : Nat), (425 : Nat)), ((30 : Nat), (42 : Nat), (115 : Nat), (425 : Nat)), ((43 : Nat), (57 : Nat), (115 : Nat), (425 : Nat)), ((58 : Nat), (72 : Nat), (115 : Nat), (425 : Nat)), ((73 : Nat), (114 : Nat), (115 : Nat), (425 : Nat))]) ∈ lwg := tb_9 31 rfl rfl
theorem W_9_32 : (Jvm.Cond.methodLink "SyncTreeLaw" (180 : Nat) ({ cls := "SyncTreeModel", name := "textAt", desc := "(I)I" } : Jvm.MethodName)) ∈ lwg := tb_9 32 rfl rfl
theorem W_9_33 : (Jvm.Cond.instanceMethod ({ cls := "SyncTreeModel", name := "textAt", desc := "(I)I" } : Jvm.MethodName)) ∈ lwg := tb_9 33 rfl rfl
theorem W_9_34 : (Jvm.Cond.selects "SyncTreeModel" ({ cls := "SyncTreeModel", name := "textAt", desc := "(I)I" } : Jvm.MethodName) ({ cls := "SyncTreeModel", name := "textAt", desc := "(I)I" } : Jvm.MethodName)) ∈ lwg := tb_9 34 rfl rfl
theorem W_9_35 : (Jvm.Cond.codeWith ({ cls := "SyncTreeModel", name := "textAt", desc := "(I)I" } : Jvm.MethodName) prog_13_method_98_code (3 : Nat) (Option.some Jvm.ClassFile.FieldType.int) [((5 : Nat), (21 : Nat), (62 : Nat), (425 : Nat)), ((22 : Nat), (34 : Nat), (62 : Nat), (425 : Nat)), ((35 : Nat), (61 : Nat), (62 : Nat), (425 : Nat))]) ∈ lwg := tb_9 35 rfl rfl
theorem W_9_36 : (Jvm.Cond.methodLink "SyncTreeLaw" (183 : Nat) ({ cls := "SyncTreeModel", name := "blockOf", desc := "(II)I" } : Jvm.MethodName)) ∈ lwg := tb_9 36 rfl rfl
theorem W_9_37 : (Jvm.Cond.instanceMethod ({ cls := "SyncTreeModel", name := "blockOf", desc := "(II)I" } : Jvm.MethodName)) ∈ lwg := tb_9 37 rfl rfl
theorem W_9_38 : (Jvm.Cond.selects "SyncTreeModel" ({ cls := "SyncTreeModel", name := "blockOf", desc := "(II)I" } : Jvm.MethodName) ({ cls := "SyncTreeModel", name := "blockOf", desc := "(II)I" } : Jvm.MethodName)) ∈ lwg := tb_9 38 rfl rfl
theorem W_9_39 : (Jvm.Cond.codeWith ({ cls := "SyncTreeModel", name := "blockOf", desc := "(II)I" } : Jvm.MethodName) prog_13_method_99_code (4 : Nat) (Option.some Jvm.ClassFile.FieldType.int) [((5 : Nat), (30 : Nat), (59 : Nat), (425 : Nat)), ((31 : Nat), (58 : Nat), (59 : Nat), (425 : Nat))]) ∈ lwg := tb_9 39 rfl rfl
theorem W_9_40 : (Jvm.Cond.methodLink "SyncTreeLaw" (186 : Nat) ({ cls := "SyncTreeModel", name := "fsync", desc := "(I)I" } : Jvm.MethodName)) ∈ lwg := tb_9 40 rfl rfl
theorem W_9_41 : (Jvm.Cond.instanceMethod ({ cls := "SyncTreeModel", name := "fsync", desc := "(I)I" } : Jvm.MethodName)) ∈ lwg := tb_9 41 rfl rfl
theorem W_9_42 : (Jvm.Cond.selects "SyncTreeModel" ({ cls := "SyncTreeModel", name := "fsync", desc := "(I)I" } : Jvm.MethodName) ({ cls := "SyncTreeModel", name := "fsync", desc := "(I)I" } : Jvm.MethodName)) ∈ lwg := tb_9 42 rfl rfl
theorem W_9_43 : (Jvm.Cond.codeWith ({ cls := "SyncTreeModel", name := "fsync", desc := "(I)I" } : Jvm.MethodName) prog_13_method_101_code (3 : Nat) (Option.some Jvm.ClassFile.FieldType.int) [((5 : Nat), (19 : Nat), (51 : Nat), (425 : Nat)), ((20 : Nat), (50 : Nat), (51 : Nat), (425 : Nat))]) ∈ lwg := tb_9 43 rfl rfl
theorem W_9_44 : (Jvm.Cond.methodLink "SyncTreeModel" (465 : Nat) ({ cls := "SyncTreeModel", name := "writeDirty", desc := "(II)I" } : Jvm.MethodName)) ∈ lwg := tb_9 44 rfl rfl
theorem W_9_46 : (Jvm.Cond.instanceMethod ({ cls := "SyncTreeModel", name := "writeDirty", desc := "(II)I" } : Jvm.MethodName)) ∈ lwg := tb_9 46 rfl rfl
theorem W_9_47 : (Jvm.Cond.code ({ cls := "SyncTreeModel", name := "writeDirty", desc := "(II)I" } : Jvm.MethodName) prog_13_method_100_code (6 : Nat) (Option.some Jvm.ClassFile.FieldType.int)) ∈ lwg := tb_9 47 rfl rfl
theorem W_9_48 : (Jvm.Cond.methodLink "SyncTreeLaw" (189 : Nat) ({ cls := "SyncTreeModel", name := "fdatasync", desc := "(I)I" } : Jvm.MethodName)) ∈ lwg := tb_9 48 rfl rfl
theorem W_9_49 : (Jvm.Cond.instanceMethod ({ cls := "SyncTreeModel", name := "fdatasync", desc := "(I)I" } : Jvm.MethodName)) ∈ lwg := tb_9 49 rfl rfl
theorem W_9_50 : (Jvm.Cond.selects "SyncTreeModel" ({ cls := "SyncTreeModel", name := "fdatasync", desc := "(I)I" } : Jvm.MethodName) ({ cls := "SyncTreeModel", name := "fdatasync", desc := "(I)I" } : Jvm.MethodName)) ∈ lwg := tb_9 50 rfl rfl
theorem W_9_51 : (Jvm.Cond.codeWith ({ cls := "SyncTreeModel", name := "fdatasync", desc := "(I)I" } : Jvm.MethodName) prog_13_method_102_code (3 : Nat) (Option.some Jvm.ClassFile.FieldType.int) [((5 : Nat), (19 : Nat), (58 : Nat), (425 : Nat)), ((20 : Nat), (57 : Nat), (58 : Nat), (425 : Nat))]) ∈ lwg := tb_9 51 rfl rfl
theorem W_9_52 : (Jvm.Cond.methodLink "SyncTreeLaw" (192 : Nat) ({ cls := "SyncTreeModel", name := "sync", desc := "()I" } : Jvm.MethodName)) ∈ lwg := tb_9 52 rfl rfl
theorem W_9_53 : (Jvm.Cond.instanceMethod ({ cls := "SyncTreeModel", name := "sync", desc := "()I" } : Jvm.MethodName)) ∈ lwg := tb_9 53 rfl rfl
theorem W_9_54 : (Jvm.Cond.selects "SyncTreeModel" ({ cls := "SyncTreeModel", name := "sync", desc := "()I" } : Jvm.MethodName) ({ cls := "SyncTreeModel", name := "sync", desc := "()I" } : Jvm.MethodName)) ∈ lwg := tb_9 54 rfl rfl
theorem W_9_55 : (Jvm.Cond.codeWith ({ cls := "SyncTreeModel", name := "sync", desc := "()I" } : Jvm.MethodName) prog_13_method_103_code (2 : Nat) (Option.some Jvm.ClassFile.FieldType.int) [((5 : Nat), (34 : Nat), (35 : Nat), (425 : Nat))]) ∈ lwg := tb_9 55 rfl rfl
theorem W_9_56 : (Jvm.Cond.methodLink "SyncTreeLaw" (195 : Nat) ({ cls := "SyncTreeModel", name := "post", desc := "()I" } : Jvm.MethodName)) ∈ lwg := tb_9 56 rfl rfl
theorem W_9_57 : (Jvm.Cond.instanceMethod ({ cls := "SyncTreeModel", name := "post", desc := "()I" } : Jvm.MethodName)) ∈ lwg := tb_9 57 rfl rfl
theorem W_9_58 : (Jvm.Cond.selects "SyncTreeModel" ({ cls := "SyncTreeModel", name := "post", desc := "()I" } : Jvm.MethodName) ({ cls := "SyncTreeModel", name := "post", desc := "()I" } : Jvm.MethodName)) ∈ lwg := tb_9 58 rfl rfl
theorem W_9_59 : (Jvm.Cond.codeWith ({ cls := "SyncTreeModel", name := "post", desc := "()I" } : Jvm.MethodName) prog_13_method_104_code (2 : Nat) (Option.some Jvm.ClassFile.FieldType.int) [((5 : Nat), (23 : Nat), (24 : Nat), (425 : Nat))]) ∈ lwg := tb_9 59 rfl rfl
theorem W_9_60 : (Jvm.Cond.methodLink "SyncTreeLaw" (198 : Nat) ({ cls := "SyncTreeModel", name := "writeBack", desc := "(I)I" } : Jvm.MethodName)) ∈ lwg := tb_9 60 rfl rfl
theorem W_9_61 : (Jvm.Cond.instanceMethod ({ cls := "SyncTreeModel", name := "writeBack", desc := "(I)I" } : Jvm.MethodName)) ∈ lwg := tb_9 61 rfl rfl
theorem W_9_62 : (Jvm.Cond.selects "SyncTreeModel" ({ cls := "SyncTreeModel", name := "writeBack", desc := "(I)I" } : Jvm.MethodName) ({ cls := "SyncTreeModel", name := "writeBack", desc := "(I)I" } : Jvm.MethodName)) ∈ lwg := tb_9 62 rfl rfl
theorem W_9_63 : (Jvm.Cond.codeWith ({ cls := "SyncTreeModel", name := "writeBack", desc := "(I)I" } : Jvm.MethodName) prog_13_method_105_code (3 : Nat) (Option.some Jvm.ClassFile.FieldType.int) [((5 : Nat), (24 : Nat), (25 : Nat), (425 : Nat))]) ∈ lwg := tb_9 63 rfl rfl
theorem W_9_64 : (Jvm.Cond.methodLink "SyncTreeLaw" (201 : Nat) ({ cls := "SyncTreeModel", name := "apply", desc := "(I)I" } : Jvm.MethodName)) ∈ lwg := tb_9 64 rfl rfl
theorem W_9_65 : (Jvm.Cond.instanceMethod ({ cls := "SyncTreeModel", name := "apply", desc := "(I)I" } : Jvm.MethodName)) ∈ lwg := tb_9 65 rfl rfl
theorem W_9_66 : (Jvm.Cond.selects "SyncTreeModel" ({ cls := "SyncTreeModel", name := "apply", desc := "(I)I" } : Jvm.MethodName) ({ cls := "SyncTreeModel", name := "apply", desc := "(I)I" } : Jvm.MethodName)) ∈ lwg := tb_9 66 rfl rfl
theorem W_9_67 : (Jvm.Cond.codeWith ({ cls := "SyncTreeModel", name := "apply", desc := "(I)I" } : Jvm.MethodName) prog_13_method_106_code (3 : Nat) (Option.some Jvm.ClassFile.FieldType.int) [((5 : Nat), (15 : Nat), (46 : Nat), (425 : Nat)), ((16 : Nat), (45 : Nat), (46 : Nat), (425 : Nat))]) ∈ lwg := tb_9 67 rfl rfl
theorem W_9_68 : (Jvm.Cond.methodLink "SyncTreeLaw" (205 : Nat) ({ cls := "SyncTreeModel", name := "cut", desc := "(I)I" } : Jvm.MethodName)) ∈ lwg := tb_9 68 rfl rfl
theorem W_9_69 : (Jvm.Cond.instanceMethod ({ cls := "SyncTreeModel", name := "cut", desc := "(I)I" } : Jvm.MethodName)) ∈ lwg := tb_9 69 rfl rfl
theorem W_9_70 : (Jvm.Cond.selects "SyncTreeModel" ({ cls := "SyncTreeModel", name := "cut", desc := "(I)I" } : Jvm.MethodName) ({ cls := "SyncTreeModel", name := "cut", desc := "(I)I" } : Jvm.MethodName)) ∈ lwg := tb_9 70 rfl rfl
theorem W_9_71 : (Jvm.Cond.code ({ cls := "SyncTreeModel", name := "cut", desc := "(I)I" } : Jvm.MethodName) prog_13_method_107_code (2 : Nat) (Option.some Jvm.ClassFile.FieldType.int)) ∈ lwg := tb_9 71 rfl rfl
theorem W_9_72 : (Jvm.Cond.methodLink "SyncTreeLaw" (208 : Nat) ({ cls := "SyncTreeModel", name := "crash", desc := "()I" } : Jvm.MethodName)) ∈ lwg := tb_9 72 rfl rfl
theorem W_9_73 : (Jvm.Cond.instanceMethod ({ cls := "SyncTreeModel", name := "crash", desc := "()I" } : Jvm.MethodName)) ∈ lwg := tb_9 73 rfl rfl
theorem W_9_74 : (Jvm.Cond.selects "SyncTreeModel" ({ cls := "SyncTreeModel", name := "crash", desc := "()I" } : Jvm.MethodName) ({ cls := "SyncTreeModel", name := "crash", desc := "()I" } : Jvm.MethodName)) ∈ lwg := tb_9 74 rfl rfl
theorem W_9_75 : (Jvm.Cond.code ({ cls := "SyncTreeModel", name := "crash", desc := "()I" } : Jvm.MethodName) prog_13_method_108_code (1 : Nat) (Option.some Jvm.ClassFile.FieldType.int)) ∈ lwg := tb_9 75 rfl rfl
theorem W_9_76 : (Jvm.Cond.methodLink "SyncTreeLaw" (226 : Nat) ({ cls := "SyncTreeModel", name := "versions", desc := "(I)I" } : Jvm.MethodName)) ∈ lwg := tb_9 76 rfl rfl
theorem W_9_77 : (Jvm.Cond.instanceMethod ({ cls := "SyncTreeModel", name := "versions", desc := "(I)I" } : Jvm.MethodName)) ∈ lwg := tb_9 77 rfl rfl
theorem W_9_78 : (Jvm.Cond.selects "SyncTreeModel" ({ cls := "SyncTreeModel", name := "versions", desc := "(I)I" } : Jvm.MethodName) ({ cls := "SyncTreeModel", name := "versions", desc := "(I)I" } : Jvm.MethodName)) ∈ lwg := tb_9 78 rfl rfl
theorem W_9_79 : (Jvm.Cond.code ({ cls := "SyncTreeModel", name := "versions", desc := "(I)I" } : Jvm.MethodName) prog_13_method_109_code (4 : Nat) (Option.some Jvm.ClassFile.FieldType.int)) ∈ lwg := tb_9 79 rfl rfl
theorem W_9_80 : (Jvm.Cond.methodLink "SyncTreeLaw" (212 : Nat) ({ cls := "SyncTreeModel", name := "choose", desc := "(II)I" } : Jvm.MethodName)) ∈ lwg := tb_9 80 rfl rfl
theorem W_9_81 : (Jvm.Cond.instanceMethod ({ cls := "SyncTreeModel", name := "choose", desc := "(II)I" } : Jvm.MethodName)) ∈ lwg := tb_9 81 rfl rfl
theorem W_9_82 : (Jvm.Cond.selects "SyncTreeModel" ({ cls := "SyncTreeModel", name := "choose", desc := "(II)I" } : Jvm.MethodName) ({ cls := "SyncTreeModel", name := "choose", desc := "(II)I" } : Jvm.MethodName)) ∈ lwg := tb_9 82 rfl rfl
theorem W_9_83 : (Jvm.Cond.code ({ cls := "SyncTreeModel", name := "choose", desc := "(II)I" } : Jvm.MethodName) prog_13_method_110_code (4 : Nat) (Option.some Jvm.ClassFile.FieldType.int)) ∈ lwg := tb_9 83 rfl rfl
theorem W_9_84 : (Jvm.Cond.methodLink "SyncTreeModel" (468 : Nat) ({ cls := "SyncTreeModel", name := "versions", desc := "(I)I" } : Jvm.MethodName)) ∈ lwg := tb_9 84 rfl rfl
theorem W_9_85 : (Jvm.Cond.methodLink "SyncTreeLaw" (219 : Nat) ({ cls := "SyncTreeModel", name := "shuffle", desc := "(J)I" } : Jvm.MethodName)) ∈ lwg := tb_9 85 rfl rfl
theorem W_9_86 : (Jvm.Cond.instanceMethod ({ cls := "SyncTreeModel", name := "shuffle", desc := "(J)I" } : Jvm.MethodName)) ∈ lwg := tb_9 86 rfl rfl
theorem W_9_87 : (Jvm.Cond.selects "SyncTreeModel" ({ cls := "SyncTreeModel", name := "shuffle", desc := "(J)I" } : Jvm.MethodName) ({ cls := "SyncTreeModel", name := "shuffle", desc := "(J)I" } : Jvm.MethodName)) ∈ lwg := tb_9 87 rfl rfl
theorem W_9_88 : (Jvm.Cond.code ({ cls := "SyncTreeModel", name := "shuffle", desc := "(J)I" } : Jvm.MethodName) prog_13_method_111_code (5 : Nat) (Option.some Jvm.ClassFile.FieldType.int)) ∈ lwg := tb_9 88 rfl rfl
theorem W_9_89 : (Jvm.Cond.constantLong "SyncTreeModel" (470 : Nat) (1023 : Int64)) ∈ lwg := tb_9 89 rfl rfl
theorem W_9_90 : (Jvm.Cond.methodLink "SyncTreeLaw" (222 : Nat) ({ cls := "SyncTreeModel", name := "recover", desc := "()I" } : Jvm.MethodName)) ∈ lwg := tb_9 90 rfl rfl
theorem W_9_91 : (Jvm.Cond.instanceMethod ({ cls := "SyncTreeModel", name := "recover", desc := "()I" } : Jvm.MethodName)) ∈ lwg := tb_9 91 rfl rfl
theorem W_9_92 : (Jvm.Cond.selects "SyncTreeModel" ({ cls := "SyncTreeModel", name := "recover", desc := "()I" } : Jvm.MethodName) ({ cls := "SyncTreeModel", name := "recover", desc := "()I" } : Jvm.MethodName)) ∈ lwg := tb_9 92 rfl rfl
theorem W_9_93 : (Jvm.Cond.codeWith ({ cls := "SyncTreeModel", name := "recover", desc := "()I" } : Jvm.MethodName) prog_13_method_112_code (2 : Nat) (Option.some Jvm.ClassFile.FieldType.int) [((15 : Nat), (19 : Nat), (20 : Nat), (425 : Nat))]) ∈ lwg := tb_9 93 rfl rfl
theorem W_9_94 : (Jvm.Cond.methodLink "SyncTreeModel" (472 : Nat) ({ cls := "SyncTreeModel", name := "recovery", desc := "()I" } : Jvm.MethodName)) ∈ lwg := tb_9 94 rfl rfl
theorem W_9_96 : (Jvm.Cond.instanceMethod ({ cls := "SyncTreeModel", name := "recovery", desc := "()I" } : Jvm.MethodName)) ∈ lwg := tb_9 96 rfl rfl
theorem W_9_97 : (Jvm.Cond.code ({ cls := "SyncTreeModel", name := "recovery", desc := "()I" } : Jvm.MethodName) prog_13_method_63_code (6 : Nat) (Option.some Jvm.ClassFile.FieldType.int)) ∈ lwg := tb_9 97 rfl rfl
theorem W_9_98 : (Jvm.Cond.methodLink "SyncTreeModel" (364 : Nat) ({ cls := "SyncTreeModel", name := "keepChosen", desc := "()V" } : Jvm.MethodName)) ∈ lwg := tb_9 98 rfl rfl
theorem W_9_100 : (Jvm.Cond.instanceMethod ({ cls := "SyncTreeModel", name := "keepChosen", desc := "()V" } : Jvm.MethodName)) ∈ lwg := tb_9 100 rfl rfl
theorem W_9_101 : (Jvm.Cond.code ({ cls := "SyncTreeModel", name := "keepChosen", desc := "()V" } : Jvm.MethodName) prog_13_method_62_code (4 : Nat) (Option.none : Option Jvm.ClassFile.FieldType)) ∈ lwg := tb_9 101 rfl rfl
theorem W_9_102 : (Jvm.Cond.methodLink "SyncTreeModel" (367 : Nat) ({ cls := "SyncTreeModel", name := "isWhole", desc := "(I)Z" } : Jvm.MethodName)) ∈ lwg := tb_9 102 rfl rfl
theorem W_9_104 : (Jvm.Cond.instanceMethod ({ cls := "SyncTreeModel", name := "isWhole", desc := "(I)Z" } : Jvm.MethodName)) ∈ lwg := tb_9 104 rfl rfl
theorem W_9_105 : (Jvm.Cond.code ({ cls := "SyncTreeModel", name := "isWhole", desc := "(I)Z" } : Jvm.MethodName) prog_13_method_61_code (5 : Nat) (Option.some Jvm.ClassFile.FieldType.boolean)) ∈ lwg := tb_9 105 rfl rfl
theorem W_9_106 : (Jvm.Cond.methodLink "SyncTreeModel" (373 : Nat) ({ cls := "SyncTreeModel", name := "undo", desc := "(I)V" } : Jvm.MethodName)) ∈ lwg := tb_9 106 rfl rfl
theorem W_9_108 : (Jvm.Cond.instanceMethod ({ cls := "SyncTreeModel", name := "undo", desc := "(I)V" } : Jvm.MethodName)) ∈ lwg := tb_9 108 rfl rfl
theorem W_9_109 : (Jvm.Cond.code ({ cls := "SyncTreeModel", name := "undo", desc := "(I)V" } : Jvm.MethodName) prog_13_method_64_code (5 : Nat) (Option.none : Option Jvm.ClassFile.FieldType)) ∈ lwg := tb_9 109 rfl rfl
theorem W_9_110 : (Jvm.Cond.methodLink "SyncTreeModel" (376 : Nat) ({ cls := "SyncTreeModel", name := "bytesAgain", desc := "()V" } : Jvm.MethodName)) ∈ lwg := tb_9 110 rfl rfl
theorem W_9_112 : (Jvm.Cond.instanceMethod ({ cls := "SyncTreeModel", name := "bytesAgain", desc := "()V" } : Jvm.MethodName)) ∈ lwg := tb_9 112 rfl rfl
theorem W_9_113 : (Jvm.Cond.code ({ cls := "SyncTreeModel", name := "bytesAgain", desc := "()V" } : Jvm.MethodName) prog_13_method_65_code (5 : Nat) (Option.none : Option Jvm.ClassFile.FieldType)) ∈ lwg := tb_9 113 rfl rfl
theorem W_9_114 : (Jvm.Cond.methodLink "SyncTreeLaw" (230 : Nat) ({ cls := "SyncTreeModel", name := "total", desc := "(I)I" } : Jvm.MethodName)) ∈ lwg := tb_9 114 rfl rfl
theorem W_9_115 : (Jvm.Cond.instanceMethod ({ cls := "SyncTreeModel", name := "total", desc := "(I)I" } : Jvm.MethodName)) ∈ lwg := tb_9 115 rfl rfl
theorem W_9_116 : (Jvm.Cond.selects "SyncTreeModel" ({ cls := "SyncTreeModel", name := "total", desc := "(I)I" } : Jvm.MethodName) ({ cls := "SyncTreeModel", name := "total", desc := "(I)I" } : Jvm.MethodName)) ∈ lwg := tb_9 116 rfl rfl
theorem W_9_117 : (Jvm.Cond.code ({ cls := "SyncTreeModel", name := "total", desc := "(I)I" } : Jvm.MethodName) prog_13_method_116_code (2 : Nat) (Option.some Jvm.ClassFile.FieldType.int)) ∈ lwg := tb_9 117 rfl rfl
theorem W_9_118 : (Jvm.Cond.methodLink "SyncTreeModel" (475 : Nat) ({ cls := "SyncTreeModel", name := "retiredBlocks", desc := "()I" } : Jvm.MethodName)) ∈ lwg := tb_9 118 rfl rfl
theorem W_9_120 : (Jvm.Cond.instanceMethod ({ cls := "SyncTreeModel", name := "retiredBlocks", desc := "()I" } : Jvm.MethodName)) ∈ lwg := tb_9 120 rfl rfl
theorem W_9_121 : (Jvm.Cond.code ({ cls := "SyncTreeModel", name := "retiredBlocks", desc := "()I" } : Jvm.MethodName) prog_13_method_114_code (3 : Nat) (Option.some Jvm.ClassFile.FieldType.int)) ∈ lwg := tb_9 121 rfl rfl
theorem W_9_122 : (Jvm.Cond.methodLink "SyncTreeModel" (478 : Nat) ({ cls := "SyncTreeModel", name := "dirtyBlocks", desc := "()I" } : Jvm.MethodName)) ∈ lwg := tb_9 122 rfl rfl
theorem W_9_124 : (Jvm.Cond.instanceMethod ({ cls := "SyncTreeModel", name := "dirtyBlocks", desc := "()I" } : Jvm.MethodName)) ∈ lwg := tb_9 124 rfl rfl
theorem W_9_125 : (Jvm.Cond.code ({ cls := "SyncTreeModel", name := "dirtyBlocks", desc := "()I" } : Jvm.MethodName) prog_13_method_113_code (3 : Nat) (Option.some Jvm.ClassFile.FieldType.int)) ∈ lwg := tb_9 125 rfl rfl
theorem W_9_126 : (Jvm.Cond.methodLink "SyncTreeModel" (481 : Nat) ({ cls := "SyncTreeModel", name := "freeNodes", desc := "()I" } : Jvm.MethodName)) ∈ lwg := tb_9 126 rfl rfl
theorem W_9_128 : (Jvm.Cond.instanceMethod ({ cls := "SyncTreeModel", name := "freeNodes", desc := "()I" } : Jvm.MethodName)) ∈ lwg := tb_9 128 rfl rfl
theorem W_9_129 : (Jvm.Cond.code ({ cls := "SyncTreeModel", name := "freeNodes", desc := "()I" } : Jvm.MethodName) prog_13_method_115_code (3 : Nat) (Option.some Jvm.ClassFile.FieldType.int)) ∈ lwg := tb_9 129 rfl rfl
theorem W_9_130 : (Jvm.Cond.constantLong "SyncTreeLaw" (213 : Nat) (4294967295 : Int64)) ∈ lwg := tb_9 130 rfl rfl
theorem W_9_132 : (Jvm.Cond.castable "SyncTreeModel$Off" "SyncTreeModel$Off") ∈ lwg := tb_9 132 rfl rfl
theorem Wp_0 : Cond.selects "SyncTree" ⟨"SyncTree", "begin", "(II)V"⟩ ⟨"SyncTree", "begin", "(II)V"⟩ ∈ lwg := tb_p (q := (⟨"SyncTree", "begin", "(II)V"⟩, 10)) (List.mem_append_left _ (List.mem_of_getElem? (i := 0) rfl)) rfl
theorem Wp_1 : Cond.selects "SyncTree$Journal" ⟨"SyncTree$Journal", "dropAll", "()V"⟩ ⟨"SyncTree$Journal", "dropAll", "()V"⟩ ∈ lwg := tb_p (q := (⟨"SyncTree$Journal", "dropAll", "()V"⟩, 18)) (List.mem_append_left _ (List.mem_of_getElem? (i := 1) rfl)) rfl
theorem Wp_2 : Cond.selects "SyncTree$Journal" ⟨"SyncTree$Journal", "giveRow", "(LSyncTree$Row;)V"⟩ ⟨"SyncTree$Journal", "giveRow", "(LSyncTree$Row;)V"⟩ ∈ lwg := tb_p (q := (⟨"SyncTree$Journal", "giveRow", "(LSyncTree$Row;)V"⟩, 18)) (List.mem_append_left _ (List.mem_of_getElem? (i := 2) rfl)) rfl
theorem Wp_3 : Cond.selects "SyncTree$Journal" ⟨"SyncTree$Journal", "setBase", "(ILSyncTree$Row;)V"⟩ ⟨"SyncTree$Journal", "setBase", "(ILSyncTree$Row;)V"⟩ ∈ lwg := tb_p (q := (⟨"SyncTree$Journal", "setBase", "(ILSyncTree$Row;)V"⟩, 18)) (List.mem_append_left _ (List.mem_of_getElem? (i := 3) rfl)) rfl
theorem Wp_4 : Cond.selects "SyncTree$Space" ⟨"SyncTree$Space", "forgetMarks", "()V"⟩ ⟨"SyncTree$Space", "forgetMarks", "()V"⟩ ∈ lwg := tb_p (q := (⟨"SyncTree$Space", "forgetMarks", "()V"⟩, 17)) (List.mem_append_left _ (List.mem_of_getElem? (i := 4) rfl)) rfl
theorem Wp_5 : Cond.selects "SyncTree$Tree" ⟨"SyncTree$Tree", "setHeader", "(IIIII)V"⟩ ⟨"SyncTree$Tree", "setHeader", "(IIIII)V"⟩ ∈ lwg := tb_p (q := (⟨"SyncTree$Tree", "setHeader", "(IIIII)V"⟩, 3)) (List.mem_append_left _ (List.mem_of_getElem? (i := 5) rfl)) rfl
theorem Wp_6 : Cond.selects "SyncTree$Tree" ⟨"SyncTree$Tree", "setNodeWord", "(IIJ)V"⟩ ⟨"SyncTree$Tree", "setNodeWord", "(IIJ)V"⟩ ∈ lwg := tb_p (q := (⟨"SyncTree$Tree", "setNodeWord", "(IIJ)V"⟩, 3)) (List.mem_append_left _ (List.mem_of_getElem? (i := 6) rfl)) rfl
theorem Wp_7 : Cond.selects "SyncTree$Tree" ⟨"SyncTree$Tree", "noteChange", "(II)V"⟩ ⟨"SyncTree$Tree", "noteChange", "(II)V"⟩ ∈ lwg := tb_p (q := (⟨"SyncTree$Tree", "noteChange", "(II)V"⟩, 3)) (List.mem_append_left _ (List.mem_of_getElem? (i := 7) rfl)) rfl
theorem Wp_8 : Cond.selects "SyncTree$Journal" ⟨"SyncTree$Journal", "restart", "(I)V"⟩ ⟨"SyncTree$Journal", "restart", "(I)V"⟩ ∈ lwg := tb_p (q := (⟨"SyncTree$Journal", "restart", "(I)V"⟩, 18)) (List.mem_append_left _ (List.mem_of_getElem? (i := 8) rfl)) rfl
theorem Wp_9 : Cond.selects "SyncTree$Journal" ⟨"SyncTree$Journal", "takeRow", "()LSyncTree$Row;"⟩ ⟨"SyncTree$Journal", "takeRow", "()LSyncTree$Row;"⟩ ∈ lwg := tb_p (q := (⟨"SyncTree$Journal", "takeRow", "()LSyncTree$Row;"⟩, 18)) (List.mem_append_left _ (List.mem_of_getElem? (i := 9) rfl)) rfl
theorem Wp_10 : Cond.selects "java/lang/Throwable" ⟨"java/lang/Throwable", "fillInStackTrace", "(I)Ljava/lang/Throwable;"⟩ ⟨"java/lang/Throwable", "fillInStackTrace", "(I)Ljava/lang/Throwable;"⟩ ∈ lwg := tb_p (q := (⟨"java/lang/Throwable", "fillInStackTrace", "(I)Ljava/lang/Throwable;"⟩, 6)) (List.mem_append_left _ (List.mem_of_getElem? (i := 10) rfl)) rfl
theorem Wp_11 : Cond.selects "SyncTree$Journal" ⟨"SyncTree$Journal", "checkpoint", "()V"⟩ ⟨"SyncTree$Journal", "checkpoint", "()V"⟩ ∈ lwg := tb_p (q := (⟨"SyncTree$Journal", "checkpoint", "()V"⟩, 18)) (List.mem_append_left _ (List.mem_of_getElem? (i := 11) rfl)) rfl
theorem Wp_12 : Cond.selects "SyncTree$Disk" ⟨"SyncTree$Disk", "act", "()V"⟩ ⟨"SyncTree$Disk", "act", "()V"⟩ ∈ lwg := tb_p (q := (⟨"SyncTree$Disk", "act", "()V"⟩, 15)) (List.mem_append_left _ (List.mem_of_getElem? (i := 12) rfl)) rfl
theorem Wp_13 : Cond.selects "SyncTree$Disk" ⟨"SyncTree$Disk", "keepOldest", "()V"⟩ ⟨"SyncTree$Disk", "keepOldest", "()V"⟩ ∈ lwg := tb_p (q := (⟨"SyncTree$Disk", "keepOldest", "()V"⟩, 15)) (List.mem_append_left _ (List.mem_of_getElem? (i := 13) rfl)) rfl
theorem Wp_14 : Cond.selects "SyncTree$Disk" ⟨"SyncTree$Disk", "keep", "(I)V"⟩ ⟨"SyncTree$Disk", "keep", "(I)V"⟩ ∈ lwg := tb_p (q := (⟨"SyncTree$Disk", "keep", "(I)V"⟩, 15)) (List.mem_append_left _ (List.mem_of_getElem? (i := 14) rfl)) rfl
theorem Wp_15 : Cond.selects "SyncTree$Journal" ⟨"SyncTree$Journal", "fold", "(I)V"⟩ ⟨"SyncTree$Journal", "fold", "(I)V"⟩ ∈ lwg := tb_p (q := (⟨"SyncTree$Journal", "fold", "(I)V"⟩, 18)) (List.mem_append_left _ (List.mem_of_getElem? (i := 15) rfl)) rfl
theorem Wp_16 : Cond.selects "SyncTree$Journal" ⟨"SyncTree$Journal", "wrap", "(I)I"⟩ ⟨"SyncTree$Journal", "wrap", "(I)I"⟩ ∈ lwg := tb_p (q := (⟨"SyncTree$Journal", "wrap", "(I)I"⟩, 18)) (List.mem_append_right _ (List.mem_append_left _ (List.mem_of_getElem? (i := 0) rfl))) rfl
theorem Wp_17 : Cond.selects "SyncTree$Journal" ⟨"SyncTree$Journal", "isRevokedLater", "(LSyncTree$Transaction;I)Z"⟩ ⟨"SyncTree$Journal", "isRevokedLater", "(LSyncTree$Transaction;I)Z"⟩ ∈ lwg := tb_p (q := (⟨"SyncTree$Journal", "isRevokedLater", "(LSyncTree$Transaction;I)Z"⟩, 18)) (List.mem_append_right _ (List.mem_append_left _ (List.mem_of_getElem? (i := 1) rfl))) rfl
theorem Wp_18 : Cond.selects "SyncTree$Journal" ⟨"SyncTree$Journal", "append", "(I)V"⟩ ⟨"SyncTree$Journal", "append", "(I)V"⟩ ∈ lwg := tb_p (q := (⟨"SyncTree$Journal", "append", "(I)V"⟩, 18)) (List.mem_append_right _ (List.mem_append_left _ (List.mem_of_getElem? (i := 2) rfl))) rfl
theorem Wp_19 : Cond.selects "SyncTree$Journal" ⟨"SyncTree$Journal", "collect", "(LSyncTree$Transaction;)V"⟩ ⟨"SyncTree$Journal", "collect", "(LSyncTree$Transaction;)V"⟩ ∈ lwg := tb_p (q := (⟨"SyncTree$Journal", "collect", "(LSyncTree$Transaction;)V"⟩, 18)) (List.mem_append_right _ (List.mem_append_left _ (List.mem_of_getElem? (i := 3) rfl))) rfl
theorem Wp_20 : Cond.selects "SyncTree" ⟨"SyncTree", "placeForNew", "()I"⟩ ⟨"SyncTree", "placeForNew", "()I"⟩ ∈ lwg := tb_p (q := (⟨"SyncTree", "placeForNew", "()I"⟩, 10)) (List.mem_append_right _ (List.mem_append_left _ (List.mem_of_getElem? (i := 4) rfl))) rfl
theorem Wp_21 : Cond.selects "SyncTree$Walker" ⟨"SyncTree$Walker", "walk", "(LSyncTree$PathText;IZ)I"⟩ ⟨"SyncTree$Walker", "walk", "(LSyncTree$PathText;IZ)I"⟩ ∈ lwg := tb_p (q := (⟨"SyncTree$Walker", "walk", "(LSyncTree$PathText;IZ)I"⟩, 5)) (List.mem_append_right _ (List.mem_append_left _ (List.mem_of_getElem? (i := 5) rfl))) rfl
theorem Wp_22 : Cond.selects "SyncTree$Walker" ⟨"SyncTree$Walker", "endOfSlashes", "(I)I"⟩ ⟨"SyncTree$Walker", "endOfSlashes", "(I)I"⟩ ∈ lwg := tb_p (q := (⟨"SyncTree$Walker", "endOfSlashes", "(I)I"⟩, 5)) (List.mem_append_right _ (List.mem_append_left _ (List.mem_of_getElem? (i := 6) rfl))) rfl
theorem Wp_23 : Cond.selects "SyncTree$Walker" ⟨"SyncTree$Walker", "endOfName", "(I)I"⟩ ⟨"SyncTree$Walker", "endOfName", "(I)I"⟩ ∈ lwg := tb_p (q := (⟨"SyncTree$Walker", "endOfName", "(I)I"⟩, 5)) (List.mem_append_right _ (List.mem_append_left _ (List.mem_of_getElem? (i := 7) rfl))) rfl
theorem Wp_24 : Cond.selects "SyncTree$Walker" ⟨"SyncTree$Walker", "look", "(III)I"⟩ ⟨"SyncTree$Walker", "look", "(III)I"⟩ ∈ lwg := tb_p (q := (⟨"SyncTree$Walker", "look", "(III)I"⟩, 5)) (List.mem_append_right _ (List.mem_append_left _ (List.mem_of_getElem? (i := 8) rfl))) rfl
theorem Wp_25 : Cond.selects "SyncTree$Tree" ⟨"SyncTree$Tree", "table", "(II)J"⟩ ⟨"SyncTree$Tree", "table", "(II)J"⟩ ∈ lwg := tb_p (q := (⟨"SyncTree$Tree", "table", "(II)J"⟩, 3)) (List.mem_append_right _ (List.mem_append_left _ (List.mem_of_getElem? (i := 9) rfl))) rfl
theorem Wp_26 : Cond.selects "SyncTree$Walker" ⟨"SyncTree$Walker", "standIn", "(I)Z"⟩ ⟨"SyncTree$Walker", "standIn", "(I)Z"⟩ ∈ lwg := tb_p (q := (⟨"SyncTree$Walker", "standIn", "(I)Z"⟩, 5)) (List.mem_append_right _ (List.mem_append_left _ (List.mem_of_getElem? (i := 10) rfl))) rfl
theorem Wp_27 : Cond.selects "SyncTree" ⟨"SyncTree", "make", "(II)I"⟩ ⟨"SyncTree", "make", "(II)I"⟩ ∈ lwg := tb_p (q := (⟨"SyncTree", "make", "(II)I"⟩, 10)) (List.mem_append_right _ (List.mem_append_left _ (List.mem_of_getElem? (i := 11) rfl))) rfl
theorem Wp_28 : Cond.selects "SyncTree$Tree" ⟨"SyncTree$Tree", "placeForEntry", "(I)I"⟩ ⟨"SyncTree$Tree", "placeForEntry", "(I)I"⟩ ∈ lwg := tb_p (q := (⟨"SyncTree$Tree", "placeForEntry", "(I)I"⟩, 3)) (List.mem_append_right _ (List.mem_append_left _ (List.mem_of_getElem? (i := 12) rfl))) rfl
theorem Wp_29 : Cond.selects "SyncTree$Tree" ⟨"SyncTree$Tree", "setSize", "(II)V"⟩ ⟨"SyncTree$Tree", "setSize", "(II)V"⟩ ∈ lwg := tb_p (q := (⟨"SyncTree$Tree", "setSize", "(II)V"⟩, 3)) (List.mem_append_right _ (List.mem_append_left _ (List.mem_of_getElem? (i := 13) rfl))) rfl
theorem Wp_30 : Cond.selects "SyncTree$Space" ⟨"SyncTree$Space", "mark", "(IZ)V"⟩ ⟨"SyncTree$Space", "mark", "(IZ)V"⟩ ∈ lwg := tb_p (q := (⟨"SyncTree$Space", "mark", "(IZ)V"⟩, 17)) (List.mem_append_right _ (List.mem_append_left _ (List.mem_of_getElem? (i := 14) rfl))) rfl
theorem Wp_31 : Cond.selects "SyncTree$Tree" ⟨"SyncTree$Tree", "setPointer", "(IIJ)V"⟩ ⟨"SyncTree$Tree", "setPointer", "(IIJ)V"⟩ ∈ lwg := tb_p (q := (⟨"SyncTree$Tree", "setPointer", "(IIJ)V"⟩, 3)) (List.mem_append_right _ (List.mem_append_left _ (List.mem_of_getElem? (i := 15) rfl))) rfl
theorem Wp_32 : Cond.selects "SyncTree" ⟨"SyncTree", "entryOfLast", "(LSyncTree$PathText;)I"⟩ ⟨"SyncTree", "entryOfLast", "(LSyncTree$PathText;)I"⟩ ∈ lwg := tb_p (q := (⟨"SyncTree", "entryOfLast", "(LSyncTree$PathText;)I"⟩, 10)) (List.mem_append_right _ (List.mem_append_right _ (List.mem_append_left _ (List.mem_of_getElem? (i := 0) rfl)))) rfl
theorem Wp_33 : Cond.selects "SyncTree$Tree" ⟨"SyncTree$Tree", "drop", "(II)V"⟩ ⟨"SyncTree$Tree", "drop", "(II)V"⟩ ∈ lwg := tb_p (q := (⟨"SyncTree$Tree", "drop", "(II)V"⟩, 3)) (List.mem_append_right _ (List.mem_append_right _ (List.mem_append_left _ (List.mem_of_getElem? (i := 1) rfl)))) rfl
theorem Wp_34 : Cond.selects "SyncTree$Space" ⟨"SyncTree$Space", "revoke", "(I)V"⟩ ⟨"SyncTree$Space", "revoke", "(I)V"⟩ ∈ lwg := tb_p (q := (⟨"SyncTree$Space", "revoke", "(I)V"⟩, 17)) (List.mem_append_right _ (List.mem_append_right _ (List.mem_append_left _ (List.mem_of_getElem? (i := 2) rfl)))) rfl
theorem Wp_35 : Cond.selects "SyncTree$Tree" ⟨"SyncTree$Tree", "dropIfEmpty", "(II)V"⟩ ⟨"SyncTree$Tree", "dropIfEmpty", "(II)V"⟩ ∈ lwg := tb_p (q := (⟨"SyncTree$Tree", "dropIfEmpty", "(II)V"⟩, 3)) (List.mem_append_right _ (List.mem_append_right _ (List.mem_append_left _ (List.mem_of_getElem? (i := 3) rfl)))) rfl
theorem Wp_36 : Cond.selects "SyncTree" ⟨"SyncTree", "loseName", "(I)V"⟩ ⟨"SyncTree", "loseName", "(I)V"⟩ ∈ lwg := tb_p (q := (⟨"SyncTree", "loseName", "(I)V"⟩, 10)) (List.mem_append_right _ (List.mem_append_right _ (List.mem_append_left _ (List.mem_of_getElem? (i := 4) rfl)))) rfl
theorem Wp_37 : Cond.selects "SyncTree$Tree" ⟨"SyncTree$Tree", "zeroBehind", "(II)V"⟩ ⟨"SyncTree$Tree", "zeroBehind", "(II)V"⟩ ∈ lwg := tb_p (q := (⟨"SyncTree$Tree", "zeroBehind", "(II)V"⟩, 3)) (List.mem_append_right _ (List.mem_append_right _ (List.mem_append_left _ (List.mem_of_getElem? (i := 5) rfl)))) rfl
theorem Wp_38 : Cond.selects "SyncTree" ⟨"SyncTree", "isHeld", "(I)Z"⟩ ⟨"SyncTree", "isHeld", "(I)Z"⟩ ∈ lwg := tb_p (q := (⟨"SyncTree", "isHeld", "(I)Z"⟩, 10)) (List.mem_append_right _ (List.mem_append_right _ (List.mem_append_left _ (List.mem_of_getElem? (i := 6) rfl)))) rfl
theorem Wp_39 : Cond.selects "SyncTree" ⟨"SyncTree", "refuseMove", "(III)I"⟩ ⟨"SyncTree", "refuseMove", "(III)I"⟩ ∈ lwg := tb_p (q := (⟨"SyncTree", "refuseMove", "(III)I"⟩, 10)) (List.mem_append_right _ (List.mem_append_right _ (List.mem_append_left _ (List.mem_of_getElem? (i := 7) rfl)))) rfl
theorem Wp_40 : Cond.selects "SyncTree" ⟨"SyncTree", "finishMove", "(IIII)V"⟩ ⟨"SyncTree", "finishMove", "(IIII)V"⟩ ∈ lwg := tb_p (q := (⟨"SyncTree", "finishMove", "(IIII)V"⟩, 10)) (List.mem_append_right _ (List.mem_append_right _ (List.mem_append_left _ (List.mem_of_getElem? (i := 8) rfl)))) rfl
theorem Wp_41 : Cond.selects "SyncTree" ⟨"SyncTree", "fileOf", "(I)I"⟩ ⟨"SyncTree", "fileOf", "(I)I"⟩ ∈ lwg := tb_p (q := (⟨"SyncTree", "fileOf", "(I)I"⟩, 10)) (List.mem_append_right _ (List.mem_append_right _ (List.mem_append_left _ (List.mem_of_getElem? (i := 9) rfl)))) rfl
theorem Wp_42 : Cond.selects "SyncTree" ⟨"SyncTree", "makeReady", "(III)I"⟩ ⟨"SyncTree", "makeReady", "(III)I"⟩ ∈ lwg := tb_p (q := (⟨"SyncTree", "makeReady", "(III)I"⟩, 10)) (List.mem_append_right _ (List.mem_append_right _ (List.mem_append_left _ (List.mem_of_getElem? (i := 10) rfl)))) rfl
theorem Wp_43 : Cond.selects "SyncTree$Tree" ⟨"SyncTree$Tree", "countBlocks", "(I)I"⟩ ⟨"SyncTree$Tree", "countBlocks", "(I)I"⟩ ∈ lwg := tb_p (q := (⟨"SyncTree$Tree", "countBlocks", "(I)I"⟩, 3)) (List.mem_append_right _ (List.mem_append_right _ (List.mem_append_left _ (List.mem_of_getElem? (i := 11) rfl)))) rfl
theorem Wp_44 : Cond.selects "SyncTree$Tree" ⟨"SyncTree$Tree", "countPointerBlocks", "(I)I"⟩ ⟨"SyncTree$Tree", "countPointerBlocks", "(I)I"⟩ ∈ lwg := tb_p (q := (⟨"SyncTree$Tree", "countPointerBlocks", "(I)I"⟩, 3)) (List.mem_append_right _ (List.mem_append_right _ (List.mem_append_left _ (List.mem_of_getElem? (i := 12) rfl)))) rfl
theorem Wp_45 : Cond.selects "SyncTree" ⟨"SyncTree", "writeDirty", "(II)I"⟩ ⟨"SyncTree", "writeDirty", "(II)I"⟩ ∈ lwg := tb_p (q := (⟨"SyncTree", "writeDirty", "(II)I"⟩, 10)) (List.mem_append_right _ (List.mem_append_right _ (List.mem_append_left _ (List.mem_of_getElem? (i := 13) rfl)))) rfl
theorem Wp_46 : Cond.selects "SyncTree$Journal" ⟨"SyncTree$Journal", "lastWhole", "(I)I"⟩ ⟨"SyncTree$Journal", "lastWhole", "(I)I"⟩ ∈ lwg := tb_p (q := (⟨"SyncTree$Journal", "lastWhole", "(I)I"⟩, 18)) (List.mem_append_right _ (List.mem_append_right _ (List.mem_append_left _ (List.mem_of_getElem? (i := 14) rfl)))) rfl
theorem Wp_47 : Cond.selects "SyncTree$Journal" ⟨"SyncTree$Journal", "isWhole", "(LSyncTree$Transaction;)Z"⟩ ⟨"SyncTree$Journal", "isWhole", "(LSyncTree$Transaction;)Z"⟩ ∈ lwg := tb_p (q := (⟨"SyncTree$Journal", "isWhole", "(LSyncTree$Transaction;)Z"⟩, 18)) (List.mem_append_right _ (List.mem_append_right _ (List.mem_append_left _ (List.mem_of_getElem? (i := 15) rfl)))) rfl
theorem Wp_48 : Cond.selects "SyncTree$Journal" ⟨"SyncTree$Journal", "markReplayed", "(II)V"⟩ ⟨"SyncTree$Journal", "markReplayed", "(II)V"⟩ ∈ lwg := tb_p (q := (⟨"SyncTree$Journal", "markReplayed", "(II)V"⟩, 18)) (List.mem_append_right _ (List.mem_append_right _ (List.mem_append_right _ (List.mem_append_left _ (List.mem_of_getElem? (i := 0) rfl))))) rfl
theorem Wp_49 : Cond.selects "SyncTree$Journal" ⟨"SyncTree$Journal", "setMarks", "([II)V"⟩ ⟨"SyncTree$Journal", "setMarks", "([II)V"⟩ ∈ lwg := tb_p (q := (⟨"SyncTree$Journal", "setMarks", "([II)V"⟩, 18)) (List.mem_append_right _ (List.mem_append_right _ (List.mem_append_right _ (List.mem_append_left _ (List.mem_of_getElem? (i := 1) rfl))))) rfl
theorem Wp_50 : Cond.selects "SyncTree$Loader" ⟨"SyncTree$Loader", "loadNode", "(I)V"⟩ ⟨"SyncTree$Loader", "loadNode", "(I)V"⟩ ∈ lwg := tb_p (q := (⟨"SyncTree$Loader", "loadNode", "(I)V"⟩, 4)) (List.mem_append_right _ (List.mem_append_right _ (List.mem_append_right _ (List.mem_append_left _ (List.mem_of_getElem? (i := 2) rfl))))) rfl
theorem Wp_51 : Cond.selects "SyncTree$Loader" ⟨"SyncTree$Loader", "loadBlock", "(IJ)V"⟩ ⟨"SyncTree$Loader", "loadBlock", "(IJ)V"⟩ ∈ lwg := tb_p (q := (⟨"SyncTree$Loader", "loadBlock", "(IJ)V"⟩, 4)) (List.mem_append_right _ (List.mem_append_right _ (List.mem_append_right _ (List.mem_append_left _ (List.mem_of_getElem? (i := 3) rfl))))) rfl
theorem Wp_52 : Cond.selects "SyncTree$Loader" ⟨"SyncTree$Loader", "loadMeta", "(IJ)V"⟩ ⟨"SyncTree$Loader", "loadMeta", "(IJ)V"⟩ ∈ lwg := tb_p (q := (⟨"SyncTree$Loader", "loadMeta", "(IJ)V"⟩, 4)) (List.mem_append_right _ (List.mem_append_right _ (List.mem_append_right _ (List.mem_append_left _ (List.mem_of_getElem? (i := 4) rfl))))) rfl
theorem Wp_53 : Cond.selects "SyncTree$Loader" ⟨"SyncTree$Loader", "loadTable", "(IJ)V"⟩ ⟨"SyncTree$Loader", "loadTable", "(IJ)V"⟩ ∈ lwg := tb_p (q := (⟨"SyncTree$Loader", "loadTable", "(IJ)V"⟩, 4)) (List.mem_append_right _ (List.mem_append_right _ (List.mem_append_right _ (List.mem_append_left _ (List.mem_of_getElem? (i := 5) rfl))))) rfl
theorem Wp_54 : Cond.selects "SyncTreeModel" ⟨"SyncTreeModel", "emptyGroup", "()V"⟩ ⟨"SyncTreeModel", "emptyGroup", "()V"⟩ ∈ lwg := tb_p (q := (⟨"SyncTreeModel", "emptyGroup", "()V"⟩, 60)) (List.mem_append_right _ (List.mem_append_right _ (List.mem_append_right _ (List.mem_append_left _ (List.mem_of_getElem? (i := 6) rfl))))) rfl
theorem Wp_55 : Cond.selects "SyncTreeModel" ⟨"SyncTreeModel", "blocks", "()I"⟩ ⟨"SyncTreeModel", "blocks", "()I"⟩ ∈ lwg := tb_p (q := (⟨"SyncTreeModel", "blocks", "()I"⟩, 60)) (List.mem_append_right _ (List.mem_append_right _ (List.mem_append_right _ (List.mem_append_left _ (List.mem_of_getElem? (i := 7) rfl))))) rfl
theorem Wp_56 : Cond.selects "SyncTreeModel" ⟨"SyncTreeModel", "upAhead", "()V"⟩ ⟨"SyncTreeModel", "upAhead", "()V"⟩ ∈ lwg := tb_p (q := (⟨"SyncTreeModel", "upAhead", "()V"⟩, 60)) (List.mem_append_right _ (List.mem_append_right _ (List.mem_append_right _ (List.mem_append_left _ (List.mem_of_getElem? (i := 8) rfl))))) rfl
theorem Wp_57 : Cond.selects "SyncTreeModel" ⟨"SyncTreeModel", "up", "()V"⟩ ⟨"SyncTreeModel", "up", "()V"⟩ ∈ lwg := tb_p (q := (⟨"SyncTreeModel", "up", "()V"⟩, 60)) (List.mem_append_right _ (List.mem_append_right _ (List.mem_append_right _ (List.mem_append_left _ (List.mem_of_getElem? (i := 9) rfl))))) rfl
theorem Wp_58 : Cond.selects "SyncTreeModel" ⟨"SyncTreeModel", "postAhead", "()V"⟩ ⟨"SyncTreeModel", "postAhead", "()V"⟩ ∈ lwg := tb_p (q := (⟨"SyncTreeModel", "postAhead", "()V"⟩, 60)) (List.mem_append_right _ (List.mem_append_right _ (List.mem_append_right _ (List.mem_append_left _ (List.mem_of_getElem? (i := 10) rfl))))) rfl
theorem Wp_59 : Cond.selects "SyncTreeModel" ⟨"SyncTreeModel", "groupSize", "()I"⟩ ⟨"SyncTreeModel", "groupSize", "()I"⟩ ∈ lwg := tb_p (q := (⟨"SyncTreeModel", "groupSize", "()I"⟩, 60)) (List.mem_append_right _ (List.mem_append_right _ (List.mem_append_right _ (List.mem_append_left _ (List.mem_of_getElem? (i := 11) rfl))))) rfl
theorem Wp_60 : Cond.selects "SyncTreeModel" ⟨"SyncTreeModel", "commit", "()V"⟩ ⟨"SyncTreeModel", "commit", "()V"⟩ ∈ lwg := tb_p (q := (⟨"SyncTreeModel", "commit", "()V"⟩, 60)) (List.mem_append_right _ (List.mem_append_right _ (List.mem_append_right _ (List.mem_append_left _ (List.mem_of_getElem? (i := 12) rfl))))) rfl
theorem Wp_61 : Cond.selects "SyncTreeModel" ⟨"SyncTreeModel", "freeOfLog", "()I"⟩ ⟨"SyncTreeModel", "freeOfLog", "()I"⟩ ∈ lwg := tb_p (q := (⟨"SyncTreeModel", "freeOfLog", "()I"⟩, 60)) (List.mem_append_right _ (List.mem_append_right _ (List.mem_append_right _ (List.mem_append_left _ (List.mem_of_getElem? (i := 13) rfl))))) rfl
theorem Wp_62 : Cond.selects "SyncTreeModel" ⟨"SyncTreeModel", "checkpoint", "()V"⟩ ⟨"SyncTreeModel", "checkpoint", "()V"⟩ ∈ lwg := tb_p (q := (⟨"SyncTreeModel", "checkpoint", "()V"⟩, 60)) (List.mem_append_right _ (List.mem_append_right _ (List.mem_append_right _ (List.mem_append_left _ (List.mem_of_getElem? (i := 14) rfl))))) rfl
theorem Wp_63 : Cond.selects "SyncTreeModel" ⟨"SyncTreeModel", "flush", "()V"⟩ ⟨"SyncTreeModel", "flush", "()V"⟩ ∈ lwg := tb_p (q := (⟨"SyncTreeModel", "flush", "()V"⟩, 60)) (List.mem_append_right _ (List.mem_append_right _ (List.mem_append_right _ (List.mem_append_left _ (List.mem_of_getElem? (i := 15) rfl))))) rfl
theorem Wp_64 : Cond.selects "SyncTreeModel" ⟨"SyncTreeModel", "flushAct", "()V"⟩ ⟨"SyncTreeModel", "flushAct", "()V"⟩ ∈ lwg := tb_p (q := (⟨"SyncTreeModel", "flushAct", "()V"⟩, 60)) (List.mem_append_right _ (List.mem_append_right _ (List.mem_append_right _ (List.mem_append_right _ (List.mem_append_left _ (List.mem_of_getElem? (i := 0) rfl)))))) rfl
theorem Wp_65 : Cond.selects "SyncTreeModel" ⟨"SyncTreeModel", "act", "()V"⟩ ⟨"SyncTreeModel", "act", "()V"⟩ ∈ lwg := tb_p (q := (⟨"SyncTreeModel", "act", "()V"⟩, 60)) (List.mem_append_right _ (List.mem_append_right _ (List.mem_append_right _ (List.mem_append_right _ (List.mem_append_left _ (List.mem_of_getElem? (i := 1) rfl)))))) rfl
theorem Wp_66 : Cond.selects "SyncTreeModel" ⟨"SyncTreeModel", "powerOff", "()V"⟩ ⟨"SyncTreeModel", "powerOff", "()V"⟩ ∈ lwg := tb_p (q := (⟨"SyncTreeModel", "powerOff", "()V"⟩, 60)) (List.mem_append_right _ (List.mem_append_right _ (List.mem_append_right _ (List.mem_append_right _ (List.mem_append_left _ (List.mem_of_getElem? (i := 2) rfl)))))) rfl
theorem Wp_67 : Cond.selects "SyncTreeModel" ⟨"SyncTreeModel", "keepOldest", "()V"⟩ ⟨"SyncTreeModel", "keepOldest", "()V"⟩ ∈ lwg := tb_p (q := (⟨"SyncTreeModel", "keepOldest", "()V"⟩, 60)) (List.mem_append_right _ (List.mem_append_right _ (List.mem_append_right _ (List.mem_append_right _ (List.mem_append_left _ (List.mem_of_getElem? (i := 3) rfl)))))) rfl
theorem Wp_68 : Cond.selects "SyncTreeModel" ⟨"SyncTreeModel", "keep", "(I)V"⟩ ⟨"SyncTreeModel", "keep", "(I)V"⟩ ∈ lwg := tb_p (q := (⟨"SyncTreeModel", "keep", "(I)V"⟩, 60)) (List.mem_append_right _ (List.mem_append_right _ (List.mem_append_right _ (List.mem_append_right _ (List.mem_append_left _ (List.mem_of_getElem? (i := 4) rfl)))))) rfl
theorem Wp_69 : Cond.selects "SyncTreeModel" ⟨"SyncTreeModel", "forget", "()V"⟩ ⟨"SyncTreeModel", "forget", "()V"⟩ ∈ lwg := tb_p (q := (⟨"SyncTreeModel", "forget", "()V"⟩, 60)) (List.mem_append_right _ (List.mem_append_right _ (List.mem_append_right _ (List.mem_append_right _ (List.mem_append_left _ (List.mem_of_getElem? (i := 5) rfl)))))) rfl
theorem Wp_70 : Cond.selects "SyncTreeModel" ⟨"SyncTreeModel", "version", "(III)V"⟩ ⟨"SyncTreeModel", "version", "(III)V"⟩ ∈ lwg := tb_p (q := (⟨"SyncTreeModel", "version", "(III)V"⟩, 60)) (List.mem_append_right _ (List.mem_append_right _ (List.mem_append_right _ (List.mem_append_right _ (List.mem_append_left _ (List.mem_of_getElem? (i := 6) rfl)))))) rfl
theorem Wp_71 : Cond.selects "SyncTreeModel" ⟨"SyncTreeModel", "applyOne", "()V"⟩ ⟨"SyncTreeModel", "applyOne", "()V"⟩ ∈ lwg := tb_p (q := (⟨"SyncTreeModel", "applyOne", "()V"⟩, 60)) (List.mem_append_right _ (List.mem_append_right _ (List.mem_append_right _ (List.mem_append_right _ (List.mem_append_left _ (List.mem_of_getElem? (i := 7) rfl)))))) rfl
theorem Wp_72 : Cond.selects "SyncTreeModel" ⟨"SyncTreeModel", "isRevoked", "(II)Z"⟩ ⟨"SyncTreeModel", "isRevoked", "(II)Z"⟩ ∈ lwg := tb_p (q := (⟨"SyncTreeModel", "isRevoked", "(II)Z"⟩, 60)) (List.mem_append_right _ (List.mem_append_right _ (List.mem_append_right _ (List.mem_append_right _ (List.mem_append_left _ (List.mem_of_getElem? (i := 8) rfl)))))) rfl
theorem Wp_73 : Cond.selects "SyncTreeModel" ⟨"SyncTreeModel", "record", "(I)V"⟩ ⟨"SyncTreeModel", "record", "(I)V"⟩ ∈ lwg := tb_p (q := (⟨"SyncTreeModel", "record", "(I)V"⟩, 60)) (List.mem_append_right _ (List.mem_append_right _ (List.mem_append_right _ (List.mem_append_right _ (List.mem_append_left _ (List.mem_of_getElem? (i := 9) rfl)))))) rfl
theorem Wp_74 : Cond.selects "SyncTreeModel" ⟨"SyncTreeModel", "list", "(I)V"⟩ ⟨"SyncTreeModel", "list", "(I)V"⟩ ∈ lwg := tb_p (q := (⟨"SyncTreeModel", "list", "(I)V"⟩, 60)) (List.mem_append_right _ (List.mem_append_right _ (List.mem_append_right _ (List.mem_append_right _ (List.mem_append_left _ (List.mem_of_getElem? (i := 10) rfl)))))) rfl
theorem Wp_75 : Cond.selects "SyncTreeModel" ⟨"SyncTreeModel", "make", "(I)I"⟩ ⟨"SyncTreeModel", "make", "(I)I"⟩ ∈ lwg := tb_p (q := (⟨"SyncTreeModel", "make", "(I)I"⟩, 60)) (List.mem_append_right _ (List.mem_append_right _ (List.mem_append_right _ (List.mem_append_right _ (List.mem_append_left _ (List.mem_of_getElem? (i := 11) rfl)))))) rfl
theorem Wp_76 : Cond.selects "SyncTreeModel" ⟨"SyncTreeModel", "walkAhead", "(I)I"⟩ ⟨"SyncTreeModel", "walkAhead", "(I)I"⟩ ∈ lwg := tb_p (q := (⟨"SyncTreeModel", "walkAhead", "(I)I"⟩, 60)) (List.mem_append_right _ (List.mem_append_right _ (List.mem_append_right _ (List.mem_append_right _ (List.mem_append_left _ (List.mem_of_getElem? (i := 12) rfl)))))) rfl
theorem Wp_77 : Cond.selects "SyncTreeModel" ⟨"SyncTreeModel", "begin", "(II)V"⟩ ⟨"SyncTreeModel", "begin", "(II)V"⟩ ∈ lwg := tb_p (q := (⟨"SyncTreeModel", "begin", "(II)V"⟩, 60)) (List.mem_append_right _ (List.mem_append_right _ (List.mem_append_right _ (List.mem_append_right _ (List.mem_append_left _ (List.mem_of_getElem? (i := 13) rfl)))))) rfl
theorem Wp_78 : Cond.selects "SyncTreeModel" ⟨"SyncTreeModel", "walk", "(Z)I"⟩ ⟨"SyncTreeModel", "walk", "(Z)I"⟩ ∈ lwg := tb_p (q := (⟨"SyncTreeModel", "walk", "(Z)I"⟩, 60)) (List.mem_append_right _ (List.mem_append_right _ (List.mem_append_right _ (List.mem_append_right _ (List.mem_append_left _ (List.mem_of_getElem? (i := 14) rfl)))))) rfl
theorem Wp_79 : Cond.selects "SyncTreeModel" ⟨"SyncTreeModel", "behind", "(I)I"⟩ ⟨"SyncTreeModel", "behind", "(I)I"⟩ ∈ lwg := tb_p (q := (⟨"SyncTreeModel", "behind", "(I)I"⟩, 60)) (List.mem_append_right _ (List.mem_append_right _ (List.mem_append_right _ (List.mem_append_right _ (List.mem_append_left _ (List.mem_of_getElem? (i := 15) rfl)))))) rfl
theorem Wp_80 : Cond.selects "SyncTreeModel" ⟨"SyncTreeModel", "node", "(II)I"⟩ ⟨"SyncTreeModel", "node", "(II)I"⟩ ∈ lwg := tb_p (q := (⟨"SyncTreeModel", "node", "(II)I"⟩, 60)) (List.mem_append_right _ (List.mem_append_right _ (List.mem_append_right _ (List.mem_append_right _ (List.mem_append_right _ (List.mem_append_left _ (List.mem_of_getElem? (i := 0) rfl))))))) rfl
theorem Wp_81 : Cond.selects "SyncTreeModel" ⟨"SyncTreeModel", "find", "(I[BII)I"⟩ ⟨"SyncTreeModel", "find", "(I[BII)I"⟩ ∈ lwg := tb_p (q := (⟨"SyncTreeModel", "find", "(I[BII)I"⟩, 60)) (List.mem_append_right _ (List.mem_append_right _ (List.mem_append_right _ (List.mem_append_right _ (List.mem_append_right _ (List.mem_append_left _ (List.mem_of_getElem? (i := 1) rfl))))))) rfl
theorem Wp_82 : Cond.selects "SyncTreeModel" ⟨"SyncTreeModel", "entries", "(I)I"⟩ ⟨"SyncTreeModel", "entries", "(I)I"⟩ ∈ lwg := tb_p (q := (⟨"SyncTreeModel", "entries", "(I)I"⟩, 60)) (List.mem_append_right _ (List.mem_append_right _ (List.mem_append_right _ (List.mem_append_right _ (List.mem_append_right _ (List.mem_append_left _ (List.mem_of_getElem? (i := 2) rfl))))))) rfl
theorem Wp_83 : Cond.selects "SyncTreeModel" ⟨"SyncTreeModel", "entryNode", "(II)I"⟩ ⟨"SyncTreeModel", "entryNode", "(II)I"⟩ ∈ lwg := tb_p (q := (⟨"SyncTreeModel", "entryNode", "(II)I"⟩, 60)) (List.mem_append_right _ (List.mem_append_right _ (List.mem_append_right _ (List.mem_append_right _ (List.mem_append_right _ (List.mem_append_left _ (List.mem_of_getElem? (i := 3) rfl))))))) rfl
theorem Wp_84 : Cond.selects "SyncTreeModel" ⟨"SyncTreeModel", "entryAt", "(III)I"⟩ ⟨"SyncTreeModel", "entryAt", "(III)I"⟩ ∈ lwg := tb_p (q := (⟨"SyncTreeModel", "entryAt", "(III)I"⟩, 60)) (List.mem_append_right _ (List.mem_append_right _ (List.mem_append_right _ (List.mem_append_right _ (List.mem_append_right _ (List.mem_append_left _ (List.mem_of_getElem? (i := 4) rfl))))))) rfl
theorem Wp_85 : Cond.selects "SyncTreeModel" ⟨"SyncTreeModel", "has", "(II)I"⟩ ⟨"SyncTreeModel", "has", "(II)I"⟩ ∈ lwg := tb_p (q := (⟨"SyncTreeModel", "has", "(II)I"⟩, 60)) (List.mem_append_right _ (List.mem_append_right _ (List.mem_append_right _ (List.mem_append_right _ (List.mem_append_right _ (List.mem_append_left _ (List.mem_of_getElem? (i := 5) rfl))))))) rfl
theorem Wp_86 : Cond.selects "SyncTreeModel" ⟨"SyncTreeModel", "leafOf", "(II)I"⟩ ⟨"SyncTreeModel", "leafOf", "(II)I"⟩ ∈ lwg := tb_p (q := (⟨"SyncTreeModel", "leafOf", "(II)I"⟩, 60)) (List.mem_append_right _ (List.mem_append_right _ (List.mem_append_right _ (List.mem_append_right _ (List.mem_append_right _ (List.mem_append_left _ (List.mem_of_getElem? (i := 6) rfl))))))) rfl
theorem Wp_87 : Cond.selects "SyncTreeModel" ⟨"SyncTreeModel", "pointer", "(II)I"⟩ ⟨"SyncTreeModel", "pointer", "(II)I"⟩ ∈ lwg := tb_p (q := (⟨"SyncTreeModel", "pointer", "(II)I"⟩, 60)) (List.mem_append_right _ (List.mem_append_right _ (List.mem_append_right _ (List.mem_append_right _ (List.mem_append_right _ (List.mem_append_left _ (List.mem_of_getElem? (i := 7) rfl))))))) rfl
theorem Wp_88 : Cond.selects "SyncTreeModel" ⟨"SyncTreeModel", "expand", "(II)V"⟩ ⟨"SyncTreeModel", "expand", "(II)V"⟩ ∈ lwg := tb_p (q := (⟨"SyncTreeModel", "expand", "(II)V"⟩, 60)) (List.mem_append_right _ (List.mem_append_right _ (List.mem_append_right _ (List.mem_append_right _ (List.mem_append_right _ (List.mem_append_left _ (List.mem_of_getElem? (i := 8) rfl))))))) rfl
theorem Wp_89 : Cond.selects "SyncTreeModel" ⟨"SyncTreeModel", "lacks", "(I)Z"⟩ ⟨"SyncTreeModel", "lacks", "(I)Z"⟩ ∈ lwg := tb_p (q := (⟨"SyncTreeModel", "lacks", "(I)Z"⟩, 60)) (List.mem_append_right _ (List.mem_append_right _ (List.mem_append_right _ (List.mem_append_right _ (List.mem_append_right _ (List.mem_append_left _ (List.mem_of_getElem? (i := 9) rfl))))))) rfl
theorem Wp_90 : Cond.selects "SyncTreeModel" ⟨"SyncTreeModel", "firstFree", "(I)I"⟩ ⟨"SyncTreeModel", "firstFree", "(I)I"⟩ ∈ lwg := tb_p (q := (⟨"SyncTreeModel", "firstFree", "(I)I"⟩, 60)) (List.mem_append_right _ (List.mem_append_right _ (List.mem_append_right _ (List.mem_append_right _ (List.mem_append_right _ (List.mem_append_left _ (List.mem_of_getElem? (i := 10) rfl))))))) rfl
theorem Wp_91 : Cond.selects "SyncTreeModel" ⟨"SyncTreeModel", "needs", "(III)I"⟩ ⟨"SyncTreeModel", "needs", "(III)I"⟩ ∈ lwg := tb_p (q := (⟨"SyncTreeModel", "needs", "(III)I"⟩, 60)) (List.mem_append_right _ (List.mem_append_right _ (List.mem_append_right _ (List.mem_append_right _ (List.mem_append_right _ (List.mem_append_left _ (List.mem_of_getElem? (i := 11) rfl))))))) rfl
theorem Wp_92 : Cond.selects "SyncTreeModel" ⟨"SyncTreeModel", "freeBlocks", "()I"⟩ ⟨"SyncTreeModel", "freeBlocks", "()I"⟩ ∈ lwg := tb_p (q := (⟨"SyncTreeModel", "freeBlocks", "()I"⟩, 60)) (List.mem_append_right _ (List.mem_append_right _ (List.mem_append_right _ (List.mem_append_right _ (List.mem_append_right _ (List.mem_append_left _ (List.mem_of_getElem? (i := 12) rfl))))))) rfl
theorem Wp_93 : Cond.selects "SyncTreeModel" ⟨"SyncTreeModel", "isFree", "(I)Z"⟩ ⟨"SyncTreeModel", "isFree", "(I)Z"⟩ ∈ lwg := tb_p (q := (⟨"SyncTreeModel", "isFree", "(I)Z"⟩, 60)) (List.mem_append_right _ (List.mem_append_right _ (List.mem_append_right _ (List.mem_append_right _ (List.mem_append_right _ (List.mem_append_left _ (List.mem_of_getElem? (i := 13) rfl))))))) rfl
theorem Wp_94 : Cond.selects "SyncTreeModel" ⟨"SyncTreeModel", "putNode", "(III)V"⟩ ⟨"SyncTreeModel", "putNode", "(III)V"⟩ ∈ lwg := tb_p (q := (⟨"SyncTreeModel", "putNode", "(III)V"⟩, 60)) (List.mem_append_right _ (List.mem_append_right _ (List.mem_append_right _ (List.mem_append_right _ (List.mem_append_right _ (List.mem_append_left _ (List.mem_of_getElem? (i := 14) rfl))))))) rfl
theorem Wp_95 : Cond.selects "SyncTreeModel" ⟨"SyncTreeModel", "put", "(II)V"⟩ ⟨"SyncTreeModel", "put", "(II)V"⟩ ∈ lwg := tb_p (q := (⟨"SyncTreeModel", "put", "(II)V"⟩, 60)) (List.mem_append_right _ (List.mem_append_right _ (List.mem_append_right _ (List.mem_append_right _ (List.mem_append_right _ (List.mem_append_left _ (List.mem_of_getElem? (i := 15) rfl))))))) rfl
theorem Wp_96 : Cond.selects "SyncTreeModel" ⟨"SyncTreeModel", "touch", "(I)V"⟩ ⟨"SyncTreeModel", "touch", "(I)V"⟩ ∈ lwg := tb_p (q := (⟨"SyncTreeModel", "touch", "(I)V"⟩, 60)) (List.mem_append_right _ (List.mem_append_right _ (List.mem_append_right _ (List.mem_append_right _ (List.mem_append_right _ (List.mem_append_right _ (List.mem_append_left _ (List.mem_of_getElem? (i := 0) rfl)))))))) rfl
theorem Wp_97 : Cond.selects "SyncTreeModel" ⟨"SyncTreeModel", "addEntry", "(I[BII)V"⟩ ⟨"SyncTreeModel", "addEntry", "(I[BII)V"⟩ ∈ lwg := tb_p (q := (⟨"SyncTreeModel", "addEntry", "(I[BII)V"⟩, 60)) (List.mem_append_right _ (List.mem_append_right _ (List.mem_append_right _ (List.mem_append_right _ (List.mem_append_right _ (List.mem_append_right _ (List.mem_append_left _ (List.mem_of_getElem? (i := 1) rfl)))))))) rfl
theorem Wp_98 : Cond.selects "SyncTreeModel" ⟨"SyncTreeModel", "ensure", "(II)V"⟩ ⟨"SyncTreeModel", "ensure", "(II)V"⟩ ∈ lwg := tb_p (q := (⟨"SyncTreeModel", "ensure", "(II)V"⟩, 60)) (List.mem_append_right _ (List.mem_append_right _ (List.mem_append_right _ (List.mem_append_right _ (List.mem_append_right _ (List.mem_append_right _ (List.mem_append_left _ (List.mem_of_getElem? (i := 2) rfl)))))))) rfl
theorem Wp_99 : Cond.selects "SyncTreeModel" ⟨"SyncTreeModel", "get", "(Z)I"⟩ ⟨"SyncTreeModel", "get", "(Z)I"⟩ ∈ lwg := tb_p (q := (⟨"SyncTreeModel", "get", "(Z)I"⟩, 60)) (List.mem_append_right _ (List.mem_append_right _ (List.mem_append_right _ (List.mem_append_right _ (List.mem_append_right _ (List.mem_append_right _ (List.mem_append_left _ (List.mem_of_getElem? (i := 3) rfl)))))))) rfl
theorem Wp_100 : Cond.selects "SyncTreeModel" ⟨"SyncTreeModel", "numberOf", "(I)I"⟩ ⟨"SyncTreeModel", "numberOf", "(I)I"⟩ ∈ lwg := tb_p (q := (⟨"SyncTreeModel", "numberOf", "(I)I"⟩, 60)) (List.mem_append_right _ (List.mem_append_right _ (List.mem_append_right _ (List.mem_append_right _ (List.mem_append_right _ (List.mem_append_right _ (List.mem_append_left _ (List.mem_of_getElem? (i := 4) rfl)))))))) rfl
theorem Wp_101 : Cond.selects "SyncTreeModel" ⟨"SyncTreeModel", "putPointer", "(III)V"⟩ ⟨"SyncTreeModel", "putPointer", "(III)V"⟩ ∈ lwg := tb_p (q := (⟨"SyncTreeModel", "putPointer", "(III)V"⟩, 60)) (List.mem_append_right _ (List.mem_append_right _ (List.mem_append_right _ (List.mem_append_right _ (List.mem_append_right _ (List.mem_append_right _ (List.mem_append_left _ (List.mem_of_getElem? (i := 5) rfl)))))))) rfl
theorem Wp_102 : Cond.selects "SyncTreeModel" ⟨"SyncTreeModel", "putEntry", "(III)V"⟩ ⟨"SyncTreeModel", "putEntry", "(III)V"⟩ ∈ lwg := tb_p (q := (⟨"SyncTreeModel", "putEntry", "(III)V"⟩, 60)) (List.mem_append_right _ (List.mem_append_right _ (List.mem_append_right _ (List.mem_append_right _ (List.mem_append_right _ (List.mem_append_right _ (List.mem_append_left _ (List.mem_of_getElem? (i := 6) rfl)))))))) rfl
theorem Wp_103 : Cond.selects "SyncTreeModel" ⟨"SyncTreeModel", "off", "()I"⟩ ⟨"SyncTreeModel", "off", "()I"⟩ ∈ lwg := tb_p (q := (⟨"SyncTreeModel", "off", "()I"⟩, 60)) (List.mem_append_right _ (List.mem_append_right _ (List.mem_append_right _ (List.mem_append_right _ (List.mem_append_right _ (List.mem_append_right _ (List.mem_append_left _ (List.mem_of_getElem? (i := 7) rfl)))))))) rfl
theorem Wp_104 : Cond.selects "SyncTreeModel" ⟨"SyncTreeModel", "walkTo", "(IZ)I"⟩ ⟨"SyncTreeModel", "walkTo", "(IZ)I"⟩ ∈ lwg := tb_p (q := (⟨"SyncTreeModel", "walkTo", "(IZ)I"⟩, 60)) (List.mem_append_right _ (List.mem_append_right _ (List.mem_append_right _ (List.mem_append_right _ (List.mem_append_right _ (List.mem_append_right _ (List.mem_append_left _ (List.mem_of_getElem? (i := 8) rfl)))))))) rfl
theorem Wp_105 : Cond.selects "SyncTreeModel" ⟨"SyncTreeModel", "removeEntry", "(II)V"⟩ ⟨"SyncTreeModel", "removeEntry", "(II)V"⟩ ∈ lwg := tb_p (q := (⟨"SyncTreeModel", "removeEntry", "(II)V"⟩, 60)) (List.mem_append_right _ (List.mem_append_right _ (List.mem_append_right _ (List.mem_append_right _ (List.mem_append_right _ (List.mem_append_right _ (List.mem_append_left _ (List.mem_of_getElem? (i := 9) rfl)))))))) rfl
theorem Wp_106 : Cond.selects "SyncTreeModel" ⟨"SyncTreeModel", "isBare", "(II)Z"⟩ ⟨"SyncTreeModel", "isBare", "(II)Z"⟩ ∈ lwg := tb_p (q := (⟨"SyncTreeModel", "isBare", "(II)Z"⟩, 60)) (List.mem_append_right _ (List.mem_append_right _ (List.mem_append_right _ (List.mem_append_right _ (List.mem_append_right _ (List.mem_append_right _ (List.mem_append_left _ (List.mem_of_getElem? (i := 10) rfl)))))))) rfl
theorem Wp_107 : Cond.selects "SyncTreeModel" ⟨"SyncTreeModel", "drop", "(II)V"⟩ ⟨"SyncTreeModel", "drop", "(II)V"⟩ ∈ lwg := tb_p (q := (⟨"SyncTreeModel", "drop", "(II)V"⟩, 60)) (List.mem_append_right _ (List.mem_append_right _ (List.mem_append_right _ (List.mem_append_right _ (List.mem_append_right _ (List.mem_append_right _ (List.mem_append_left _ (List.mem_of_getElem? (i := 11) rfl)))))))) rfl
theorem Wp_108 : Cond.selects "SyncTreeModel" ⟨"SyncTreeModel", "free", "(IZ)V"⟩ ⟨"SyncTreeModel", "free", "(IZ)V"⟩ ∈ lwg := tb_p (q := (⟨"SyncTreeModel", "free", "(IZ)V"⟩, 60)) (List.mem_append_right _ (List.mem_append_right _ (List.mem_append_right _ (List.mem_append_right _ (List.mem_append_right _ (List.mem_append_right _ (List.mem_append_left _ (List.mem_of_getElem? (i := 12) rfl)))))))) rfl
theorem Wp_109 : Cond.selects "SyncTreeModel" ⟨"SyncTreeModel", "isEmpty", "(I)Z"⟩ ⟨"SyncTreeModel", "isEmpty", "(I)Z"⟩ ∈ lwg := tb_p (q := (⟨"SyncTreeModel", "isEmpty", "(I)Z"⟩, 60)) (List.mem_append_right _ (List.mem_append_right _ (List.mem_append_right _ (List.mem_append_right _ (List.mem_append_right _ (List.mem_append_right _ (List.mem_append_left _ (List.mem_of_getElem? (i := 13) rfl)))))))) rfl
theorem Wp_110 : Cond.selects "SyncTreeModel" ⟨"SyncTreeModel", "lose", "(I)I"⟩ ⟨"SyncTreeModel", "lose", "(I)I"⟩ ∈ lwg := tb_p (q := (⟨"SyncTreeModel", "lose", "(I)I"⟩, 60)) (List.mem_append_right _ (List.mem_append_right _ (List.mem_append_right _ (List.mem_append_right _ (List.mem_append_right _ (List.mem_append_right _ (List.mem_append_left _ (List.mem_of_getElem? (i := 14) rfl)))))))) rfl
theorem Wp_111 : Cond.selects "SyncTreeModel" ⟨"SyncTreeModel", "maybeFree", "(I)V"⟩ ⟨"SyncTreeModel", "maybeFree", "(I)V"⟩ ∈ lwg := tb_p (q := (⟨"SyncTreeModel", "maybeFree", "(I)V"⟩, 60)) (List.mem_append_right _ (List.mem_append_right _ (List.mem_append_right _ (List.mem_append_right _ (List.mem_append_right _ (List.mem_append_right _ (List.mem_append_left _ (List.mem_of_getElem? (i := 15) rfl)))))))) rfl
theorem Wp_112 : Cond.selects "SyncTreeModel" ⟨"SyncTreeModel", "isOpen", "(I)Z"⟩ ⟨"SyncTreeModel", "isOpen", "(I)Z"⟩ ∈ lwg := tb_p (q := (⟨"SyncTreeModel", "isOpen", "(I)Z"⟩, 60)) (List.mem_append_right _ (List.mem_append_right _ (List.mem_append_right _ (List.mem_append_right _ (List.mem_append_right _ (List.mem_append_right _ (List.mem_append_right _ (List.mem_append_left _ (List.mem_of_getElem? (i := 0) rfl))))))))) rfl
theorem Wp_113 : Cond.selects "SyncTreeModel" ⟨"SyncTreeModel", "setSize", "(II)V"⟩ ⟨"SyncTreeModel", "setSize", "(II)V"⟩ ∈ lwg := tb_p (q := (⟨"SyncTreeModel", "setSize", "(II)V"⟩, 60)) (List.mem_append_right _ (List.mem_append_right _ (List.mem_append_right _ (List.mem_append_right _ (List.mem_append_right _ (List.mem_append_right _ (List.mem_append_right _ (List.mem_append_left _ (List.mem_of_getElem? (i := 1) rfl))))))))) rfl
theorem Wp_114 : Cond.selects "SyncTreeModel" ⟨"SyncTreeModel", "mayRename", "(III)I"⟩ ⟨"SyncTreeModel", "mayRename", "(III)I"⟩ ∈ lwg := tb_p (q := (⟨"SyncTreeModel", "mayRename", "(III)I"⟩, 60)) (List.mem_append_right _ (List.mem_append_right _ (List.mem_append_right _ (List.mem_append_right _ (List.mem_append_right _ (List.mem_append_right _ (List.mem_append_right _ (List.mem_append_left _ (List.mem_of_getElem? (i := 2) rfl))))))))) rfl
theorem Wp_115 : Cond.selects "SyncTreeModel" ⟨"SyncTreeModel", "isBelow", "(II)Z"⟩ ⟨"SyncTreeModel", "isBelow", "(II)Z"⟩ ∈ lwg := tb_p (q := (⟨"SyncTreeModel", "isBelow", "(II)Z"⟩, 60)) (List.mem_append_right _ (List.mem_append_right _ (List.mem_append_right _ (List.mem_append_right _ (List.mem_append_right _ (List.mem_append_right _ (List.mem_append_right _ (List.mem_append_left _ (List.mem_of_getElem? (i := 3) rfl))))))))) rfl
theorem Wp_116 : Cond.selects "SyncTreeModel" ⟨"SyncTreeModel", "isHandle", "(I)Z"⟩ ⟨"SyncTreeModel", "isHandle", "(I)Z"⟩ ∈ lwg := tb_p (q := (⟨"SyncTreeModel", "isHandle", "(I)Z"⟩, 60)) (List.mem_append_right _ (List.mem_append_right _ (List.mem_append_right _ (List.mem_append_right _ (List.mem_append_right _ (List.mem_append_right _ (List.mem_append_right _ (List.mem_append_left _ (List.mem_of_getElem? (i := 4) rfl))))))))) rfl
theorem Wp_117 : Cond.selects "SyncTreeModel" ⟨"SyncTreeModel", "bytes", "(IIII)I"⟩ ⟨"SyncTreeModel", "bytes", "(IIII)I"⟩ ∈ lwg := tb_p (q := (⟨"SyncTreeModel", "bytes", "(IIII)I"⟩, 60)) (List.mem_append_right _ (List.mem_append_right _ (List.mem_append_right _ (List.mem_append_right _ (List.mem_append_right _ (List.mem_append_right _ (List.mem_append_right _ (List.mem_append_left _ (List.mem_of_getElem? (i := 5) rfl))))))))) rfl
theorem Wp_118 : Cond.selects "SyncTreeModel" ⟨"SyncTreeModel", "byteOf", "(II)I"⟩ ⟨"SyncTreeModel", "byteOf", "(II)I"⟩ ∈ lwg := tb_p (q := (⟨"SyncTreeModel", "byteOf", "(II)I"⟩, 60)) (List.mem_append_right _ (List.mem_append_right _ (List.mem_append_right _ (List.mem_append_right _ (List.mem_append_right _ (List.mem_append_right _ (List.mem_append_right _ (List.mem_append_left _ (List.mem_of_getElem? (i := 6) rfl))))))))) rfl
theorem Wp_119 : Cond.selects "SyncTreeModel" ⟨"SyncTreeModel", "told", "(II)I"⟩ ⟨"SyncTreeModel", "told", "(II)I"⟩ ∈ lwg := tb_p (q := (⟨"SyncTreeModel", "told", "(II)I"⟩, 60)) (List.mem_append_right _ (List.mem_append_right _ (List.mem_append_right _ (List.mem_append_right _ (List.mem_append_right _ (List.mem_append_right _ (List.mem_append_right _ (List.mem_append_left _ (List.mem_of_getElem? (i := 7) rfl))))))))) rfl
theorem Wp_120 : Cond.selects "SyncTreeModel" ⟨"SyncTreeModel", "writeDirty", "(II)I"⟩ ⟨"SyncTreeModel", "writeDirty", "(II)I"⟩ ∈ lwg := tb_p (q := (⟨"SyncTreeModel", "writeDirty", "(II)I"⟩, 60)) (List.mem_append_right _ (List.mem_append_right _ (List.mem_append_right _ (List.mem_append_right _ (List.mem_append_right _ (List.mem_append_right _ (List.mem_append_right _ (List.mem_append_left _ (List.mem_of_getElem? (i := 8) rfl))))))))) rfl
theorem Wp_121 : Cond.selects "SyncTreeModel" ⟨"SyncTreeModel", "recovery", "()I"⟩ ⟨"SyncTreeModel", "recovery", "()I"⟩ ∈ lwg := tb_p (q := (⟨"SyncTreeModel", "recovery", "()I"⟩, 60)) (List.mem_append_right _ (List.mem_append_right _ (List.mem_append_right _ (List.mem_append_right _ (List.mem_append_right _ (List.mem_append_right _ (List.mem_append_right _ (List.mem_append_left _ (List.mem_of_getElem? (i := 9) rfl))))))))) rfl
theorem Wp_122 : Cond.selects "SyncTreeModel" ⟨"SyncTreeModel", "keepChosen", "()V"⟩ ⟨"SyncTreeModel", "keepChosen", "()V"⟩ ∈ lwg := tb_p (q := (⟨"SyncTreeModel", "keepChosen", "()V"⟩, 60)) (List.mem_append_right _ (List.mem_append_right _ (List.mem_append_right _ (List.mem_append_right _ (List.mem_append_right _ (List.mem_append_right _ (List.mem_append_right _ (List.mem_append_left _ (List.mem_of_getElem? (i := 10) rfl))))))))) rfl
theorem Wp_123 : Cond.selects "SyncTreeModel" ⟨"SyncTreeModel", "isWhole", "(I)Z"⟩ ⟨"SyncTreeModel", "isWhole", "(I)Z"⟩ ∈ lwg := tb_p (q := (⟨"SyncTreeModel", "isWhole", "(I)Z"⟩, 60)) (List.mem_append_right _ (List.mem_append_right _ (List.mem_append_right _ (List.mem_append_right _ (List.mem_append_right _ (List.mem_append_right _ (List.mem_append_right _ (List.mem_append_left _ (List.mem_of_getElem? (i := 11) rfl))))))))) rfl
theorem Wp_124 : Cond.selects "SyncTreeModel" ⟨"SyncTreeModel", "undo", "(I)V"⟩ ⟨"SyncTreeModel", "undo", "(I)V"⟩ ∈ lwg := tb_p (q := (⟨"SyncTreeModel", "undo", "(I)V"⟩, 60)) (List.mem_append_right _ (List.mem_append_right _ (List.mem_append_right _ (List.mem_append_right _ (List.mem_append_right _ (List.mem_append_right _ (List.mem_append_right _ (List.mem_append_left _ (List.mem_of_getElem? (i := 12) rfl))))))))) rfl
theorem Wp_125 : Cond.selects "SyncTreeModel" ⟨"SyncTreeModel", "bytesAgain", "()V"⟩ ⟨"SyncTreeModel", "bytesAgain", "()V"⟩ ∈ lwg := tb_p (q := (⟨"SyncTreeModel", "bytesAgain", "()V"⟩, 60)) (List.mem_append_right _ (List.mem_append_right _ (List.mem_append_right _ (List.mem_append_right _ (List.mem_append_right _ (List.mem_append_right _ (List.mem_append_right _ (List.mem_append_left _ (List.mem_of_getElem? (i := 13) rfl))))))))) rfl
theorem Wp_126 : Cond.selects "SyncTreeModel" ⟨"SyncTreeModel", "retiredBlocks", "()I"⟩ ⟨"SyncTreeModel", "retiredBlocks", "()I"⟩ ∈ lwg := tb_p (q := (⟨"SyncTreeModel", "retiredBlocks", "()I"⟩, 60)) (List.mem_append_right _ (List.mem_append_right _ (List.mem_append_right _ (List.mem_append_right _ (List.mem_append_right _ (List.mem_append_right _ (List.mem_append_right _ (List.mem_append_left _ (List.mem_of_getElem? (i := 14) rfl))))))))) rfl
theorem Wp_127 : Cond.selects "SyncTreeModel" ⟨"SyncTreeModel", "dirtyBlocks", "()I"⟩ ⟨"SyncTreeModel", "dirtyBlocks", "()I"⟩ ∈ lwg := tb_p (q := (⟨"SyncTreeModel", "dirtyBlocks", "()I"⟩, 60)) (List.mem_append_right _ (List.mem_append_right _ (List.mem_append_right _ (List.mem_append_right _ (List.mem_append_right _ (List.mem_append_right _ (List.mem_append_right _ (List.mem_append_left _ (List.mem_of_getElem? (i := 15) rfl))))))))) rfl
theorem Wp_128 : Cond.selects "SyncTreeModel" ⟨"SyncTreeModel", "freeNodes", "()I"⟩ ⟨"SyncTreeModel", "freeNodes", "()I"⟩ ∈ lwg := tb_p (q := (⟨"SyncTreeModel", "freeNodes", "()I"⟩, 60)) (List.mem_append_right _ (List.mem_append_right _ (List.mem_append_right _ (List.mem_append_right _ (List.mem_append_right _ (List.mem_append_right _ (List.mem_append_right _ (List.mem_append_right _ (List.mem_of_getElem? (i := 0) rfl))))))))) rfl
