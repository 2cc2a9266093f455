/-! ===== THE START ===== -/
theorem st_K {s : State} {args : Array Value} (hts : ∀ w ∈ lwg, w.before args s = true) : ∃ D : va_G, ∀ (c : Nat) (q : vw_C), vwC2[c]? = some q → u_Kn s q.1 q.2.1 q.2.2 (D.1 c) (D.2 c) := by
  obtain ⟨c0, i0, h0⟩ := u_known (n := 15) hts tC_0.at.2.1 (hts _ W_1_29)
  obtain ⟨c1, i1, h1⟩ := u_known (n := 18) hts tC_1.at.2.1 (hts _ W_1_174)
  obtain ⟨c2, i2, h2⟩ := u_known (n := 4) hts tC_2.at.2.1 (hts _ W_1_236)
  obtain ⟨c3, i3, h3⟩ := u_known (n := 5) hts tC_3.at.2.1 (hts _ W_2_51)
  obtain ⟨c4, i4, h4⟩ := u_known (n := 2) hts tC_4.at.2.1 (hts _ W_2_184)
  obtain ⟨c5, i5, h5⟩ := u_known (n := 17) hts tC_5.at.2.1 (hts _ W_1_88)
  obtain ⟨c6, i6, h6⟩ := u_known (n := 2) hts tC_6.at.2.1 (hts _ W_2_37)
  obtain ⟨c7, i7, h7⟩ := u_known (n := 8) hts tC_7.at.2.1 (hts _ W_4_14)
  obtain ⟨c8, i8, h8⟩ := u_known (n := 3) hts tC_8.at.2.1 (hts _ W_1_158)
  obtain ⟨c9, i9, h9⟩ := u_known (n := 5) hts tC_9.at.2.1 (hts _ W_2_15)
  obtain ⟨c10, i10, h10⟩ := u_known (n := 10) hts tC_10.at.2.1 (hts _ W_1_21)
  obtain ⟨c11, i11, h11⟩ := u_known (n := 60) hts tC_11.at.2.1 (hts _ W_6_195)
  obtain ⟨c12, i12, h12⟩ := u_known (C := "java/lang/IllegalStateException") (T := TX11) (N := 0) (n := 6) hts (fun w h => by simp [u_ws] at h) (hts _ W_3_117)
  refine ⟨(fun k => [c0, c1, c2, c3, c4, c5, c6, c7, c8, c9, c10, c11, c12].getD k 0, fun k => [i0, i1, i2, i3, i4, i5, i6, i7, i8, i9, i10, i11, i12].getD k (fun _ => 0)), ?_⟩
  intro c q hq
  match c, hq with
  | 0, hq => cases hq; exact h0
  | 1, hq => cases hq; exact h1
  | 2, hq => cases hq; exact h2
  | 3, hq => cases hq; exact h3
  | 4, hq => cases hq; exact h4
  | 5, hq => cases hq; exact h5
  | 6, hq => cases hq; exact h6
  | 7, hq => cases hq; exact h7
  | 8, hq => cases hq; exact h8
  | 9, hq => cases hq; exact h9
  | 10, hq => cases hq; exact h10
  | 11, hq => cases hq; exact h11
  | 12, hq => cases hq; exact h12
  | k + 13, hq => exact absurd (List.getElem?_eq_some_iff.mp hq).1 (by show ¬ k + 13 < 13; omega)
theorem st_A {s : State} {args : Array Value} (hts : ∀ w ∈ lwg, w.before args s = true) : ∃ aC : Nat → ClassId, ∀ (k : Nat) (q : ClassId × FieldType), (tT aC)[k]? = some q → ArrOfT s q.1 q.2 ∧ va_RA s q.1 q.2 := by
  obtain ⟨a0, k0, m0, f0, g0, e0⟩ := Cond.arrayClass_spec (hts _ W_1_85)
  obtain ⟨a1, k1, m1, f1, g1, e1⟩ := Cond.arrayClass_spec (hts _ W_1_156)
  obtain ⟨a2, k2, m2, f2, g2, e2⟩ := Cond.arrayClass_spec (hts _ W_1_86)
  obtain ⟨a3, k3, m3, f3, g3, e3⟩ := Cond.arrayClass_spec (hts _ W_1_155)
  obtain ⟨m4, a4, k4, f4, -, g4, e4, n4⟩ := Cond.arrayOver_spec (hts _ W_1_35)
  obtain ⟨m5, a5, k5, f5, -, g5, e5, n5⟩ := arrayOverA_spec (hts _ W_6_204)
  refine ⟨fun k => [a0, a1, a2, a3, a4, a5].getD k 0, ?_⟩
  intro k q hq
  match k, hq with
  | 0, hq => cases hq; exact ⟨fun N z => ⟨(fun k h => by cases h), k0, g0, m0, e0⟩, f0⟩
  | 1, hq => cases hq; exact ⟨fun N z => ⟨(fun k h => by cases h), k1, g1, m1, e1⟩, f1⟩
  | 2, hq => cases hq; exact ⟨fun N z => ⟨(fun k h => by cases h), k2, g2, m2, e2⟩, f2⟩
  | 3, hq => cases hq; exact ⟨fun N z => ⟨(fun k h => by cases h), k3, g3, m3, e3⟩, f3⟩
  | 4, hq => cases hq; exact ⟨fun N z => ⟨(fun k h => by cases h), k4, g4, m4, e4⟩, k4, m4, g4, e4, f4, n4⟩
  | 5, hq => cases hq; exact ⟨fun N z => ⟨(fun k h => by cases h), k5, g5, m5, e5⟩, n5⟩
  | k + 6, hq => exact absurd (List.getElem?_eq_some_iff.mp hq).1 (by show ¬ k + 6 < 6; omega)
theorem st_Old {s : State} {b : Nat} (hts : ∀ w ∈ lw_tbl, w.before #[Value.ref b] s = true) (hgv : (Jvm.Cond.and given_1 narrow_1).before #[Value.ref b] s = true) : tOld s.heap.size s := by
  have hs := flat_of_before _ hgv
  have hA : ∀ a : Nat, a < s.heap.size → ¬ (s.heap.size ≤ a) := fun a h => Nat.not_le.mpr h
  have u1 : (Cond.isRef (.static Bundle.tN "UNASSIGNED_STACK" Bundle.steD)).before #[Value.ref b] s = true := hs _ (by decide +kernel)
  have u2 : (Cond.isRef (.static Bundle.tN "SUPPRESSED_SENTINEL" Bundle.listD)).before #[Value.ref b] s = true := hs _ (by decide +kernel)
  have u3 : (Cond.exactly (.static "SyncTreeModel" "OFF" "LSyncTreeModel$Off;") "SyncTreeModel$Off").before #[Value.ref b] s = true := hs _ (by decide +kernel)
  have u4 : (Cond.untouched (.static "SyncTreeModel" "OFF" "LSyncTreeModel$Off;")).before #[Value.ref b] s = true := hs _ (by decide +kernel)
  have u5 : (Cond.exactly (.string "SyncTree$Disk" 74) "java/lang/String").before #[Value.ref b] s = true := hs _ (by decide +kernel)
  have u6 : (Cond.exactly (.string "SyncTree$Disk" 82) "java/lang/String").before #[Value.ref b] s = true := hs _ (by decide +kernel)
  have l1 : (Cond.laysStatic Bundle.tN "UNASSIGNED_STACK" Bundle.steD).before #[Value.ref b] s = true := hts _ (by decide +kernel)
  have l2 : (Cond.laysStatic Bundle.tN "SUPPRESSED_SENTINEL" Bundle.listD).before #[Value.ref b] s = true := hts _ (by decide +kernel)
  have l3 : (Cond.laysStatic "SyncTreeModel" "OFF" "LSyncTreeModel$Off;").before #[Value.ref b] s = true := hts _ (by decide +kernel)
  have s1 : (Cond.stringRef "SyncTree$Disk" 74 "power is off").before #[Value.ref b] s = true := hts _ (by decide +kernel)
  have s2 : (Cond.stringRef "SyncTree$Disk" 82 "power fails").before #[Value.ref b] s = true := hts _ (by decide +kernel)
  have i1 : (Cond.initialized Bundle.tN).before #[Value.ref b] s = true := hts _ (by decide +kernel)
  have i2 : (Cond.initialized "SyncTreeModel").before #[Value.ref b] s = true := hts _ (by decide +kernel)
  obtain ⟨a, c, cell, k, q1, q2, q3, q4, q5, q6, -⟩ := Cond.exactly_spec u3
  obtain ⟨a', cell', r1, r2, -, -, r3⟩ := Cond.untouched_spec u4
  cases Option.some.inj (q1.symm.trans r1)
  cases Option.some.inj (q3.symm.trans r2)
  obtain ⟨sa, -, -, -, p1, -⟩ := Cond.exactly_spec u5
  obtain ⟨sb, -, -, -, p2, -⟩ := Cond.exactly_spec u6
  refine ⟨vx_Zqof l1 i1 u1 hA, vx_Zqof l2 i1 u2 hA, ⟨sa, s1, p1⟩, ⟨sb, s2, p2⟩, a, cell, va_Zof l3 i2 q1 hA, (Array.getElem?_eq_some_iff.mp q3).1, q3, r3, by rw [q6]; exact q2⟩
theorem st_Wd {l : Launch} (hst : l.stackTraces = false) {s : State} {b : Nat} (hts : ∀ w ∈ lw_tbl, w.before #[Value.ref b] s = true) (hgv : (Jvm.Cond.and given_1 narrow_1).before #[Value.ref b] s = true) : ∃ (D : va_G) (aC : Nat → ClassId), tWd l D aC s.heap.size s := by
  have hg : ∀ w ∈ lwg, w.before #[Value.ref b] s = true := fun w hw => hts w (List.mem_filter.mp hw).1
  obtain ⟨D, hD⟩ := st_K hg
  obtain ⟨aC, hA⟩ := st_A hg
  exact ⟨D, aC, ⟨hD, hA⟩, st_Old hts hgv, hst⟩
theorem zx_room {p : Program} {l : Launch} {e : Env} {R R2 : Room} {s : State} {m : MethodId} {args : Array Value} {below : List Frame} {meth : Method} {c : Code} {H : Heap} {locs : List Loc} {cells slots : Nat} {Q : State → Prop} {g : JFrame} (h : R2.frames ≤ R.frames ∧ R2.cells ≤ R.cells ∧ R2.slots ≤ R.slots ∧ R2.locals ≤ R.locals) (k : W p l e R2 s m args below meth c H locs cells slots Q g) : W p l e R s m args below meth c H locs cells slots Q g := by
  intro T hT X
  refine k T hT { X with room := ?_ }
  have hr := X.room
  simp only [State.hasRoom, Bool.and_eq_true, decide_eq_true_eq] at hr ⊢
  obtain ⟨⟨⟨⟨a1, a2, a3, a4, a5, a6⟩, a7⟩, a8⟩, a9⟩ := hr
  exact ⟨⟨⟨⟨by omega, by omega, by omega, by omega, by omega, a6⟩, by omega⟩, by omega⟩, a9⟩

