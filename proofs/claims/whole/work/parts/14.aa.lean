/-! ===== arrays of byte arrays; the reference's one exception ===== -/
theorem asg_self (vm : Vm) (c : ClassId) (n : Nat) : vm.assignableAux (n + 1) c c = true := by
  rw [Vm.assignableAux, beq_self_eq_true, Bool.true_or]
section TAA
variable {p : Program} {l : Launch} {e : Env} {s : State} {m : MethodId} {args : Array Value} {below : List Frame} {meth : Method} {c : Code} {nL fr lo : Nat} {D : va_G} {aC : Nat → ClassId} {b0 : Nat} {σ0 : tM} {r : Option Value ⊕ String} {τ : tM} {pc : Nat} {lv : List (Nat × Value)} {st : List Value} {σ : tM} {own : String} {cc : ByteArray} {ret : Option FieldType}
theorem zx_aald5 (C : tCx p l s m args meth c own cc nL ret D aC b0 σ0) {a n : Nat} {i : Int32} (hk : tk σ a = .inr (5, n)) (hi : tIn b0 σ a) (hin : vp_in i n) (hd : decode cc pc = .ok (.aaload, 1)) (v : Value) (hv : va_rf (tA σ a i.toNatClampNeg) = v)
    (k : tX p l e s m args below meth c nL fr lo D aC b0 σ0 r τ (pc + 1) lv (v :: st) σ) : tX p l e s m args below meth c nL fr lo D aC b0 σ0 r τ pc lv (.int i :: .ref a :: st) σ := by
  subst hv
  refine ⟨k.1, fun h1 h2 H locs ls hl hP hS => ?_⟩
  obtain ⟨hx, hb, -, -, hown, hts, -, ⟨hK, hO⟩, -⟩ := C
  have he := tW_get (aC := aC) hi
  rw [tE_r hk] at he
  have hlt : i.toNatClampNeg < n := Nat.not_le.mp fun q => hin (Or.inr q)
  exact W.aald (v := va_rf (tA σ a i.toNatClampNeg)) (ty := .array .byte) hx hb (hP _ _ he) ((hK.2 5 (aC 5, .array .byte) rfl).1 n (fun j => va_rf (tA σ a j))) rfl (fun q => by cases q) (by show ¬ (i < 0 ∨ (arrV _ _ _).slots.size ≤ _); rw [arrV_size]; exact hin) (by show (arrV _ _ _).slots[_]? = _; rw [arrV_read _ _ hlt]) rfl rfl hd (k.2 h1 h2 H locs ls hl hP hS)
theorem zx_ast5 (C : tCx p l s m args meth c own cc nL ret D aC b0 σ0) (w : Cond.arrayOver (.array .byte) ∈ lwg) {a n v nv : Nat} {i : Int32} (hk : tk σ a = .inr (5, n)) (hi : tIn b0 σ a) (hv : tk σ v = .inr (1, nv)) (hvi : tIn b0 σ v) (hin : vp_in i n) (hd : decode cc pc = .ok (.aastore, 1))
    (k : tX p l e s m args below meth c nL fr lo D aC b0 σ0 r τ (pc + 1) lv st (sA σ a i.toNatClampNeg (some v))) : tX p l e s m args below meth c nL fr lo D aC b0 σ0 r τ pc lv (.ref v :: .int i :: .ref a :: st) σ := by
  refine ⟨k.1, fun h1 h2 H locs ls hl hP hS => ?_⟩
  obtain ⟨hx, hb, -, -, hown, hts, -, ⟨hK, hO⟩, -⟩ := C
  have he := tW_get (aC := aC) hi
  rw [tE_r hk] at he
  have hev := tW_get (aC := aC) hvi
  rw [tE_r hv] at hev
  have hlt : i.toNatClampNeg < n := Nat.not_le.mp fun q => hin (Or.inr q)
  have h0 : ¬ i < 0 := fun q => hin (Or.inl q)
  obtain ⟨comp, cA, kA, g1, g2, g3, g4, g5⟩ := arrayOverA_spec (hts _ w)
  have hcA : cA = aC 5 := Option.some.inj (g5.symm.trans (hK.2 5 (aC 5, .array .byte) rfl).2)
  have hcomp : comp = aC 1 := Option.some.inj (g1.symm.trans (hK.2 1 (aC 1, .byte) rfl).2)
  subst hcA
  subst hcomp
  obtain ⟨kC, hkC, -⟩ := Vm.findClass_spec g1
  refine W.aast (cv := vp_cell (aC 1) (nv, tR σ 1 v)) hx hb (hP _ _ he) (fun q h => by cases h) (fun h => by cases h) g3 g4 rfl hkC ⟨h0, by show _ < (arrV _ _ _).slots.size; rw [arrV_size]; exact hlt⟩ (hP _ _ hev) (fun q h => by cases h) hkC (asg_self _ _ 255) rfl rfl hd fun H1 e z oq => ?_
  have hw := tW_set (aC := aC) (τ := sA σ a i.toNatClampNeg (some v)) hi rfl (fun b hb => tE_congr rfl rfl rfl (tup_ne hb))
  rw [tE_r (show tk (sA σ a i.toNatClampNeg (some v)) a = .inr (5, n) from hk)] at hw
  refine k.2 h1 h2 H1 _ ls hl ?_ (hS.put z oq hi.1)
  rw [← hw]
  refine hP.set tW_D he ?_ oq
  show H1[a]? = some (vp_cell _ _)
  rw [e]
  simp only [tR, tA, sA, tup_row]
  rw [vp_cell_q, vp_cell_q, arrV_store]
  congr 2
  funext q
  by_cases hq : q = i.toNatClampNeg
  · subst hq
    simp [updV, va_up, va_rf]
  · simp [updV, va_up, hq]
theorem zx_new5 (C : tCx p l s m args meth c own cc nL ret D aC b0 σ0) {n : Int32} {idx : Nat} (hcl : Cond.classLink own idx "[B" ∈ lwg) (w : Cond.arrayOver (.array .byte) ∈ lwg) (hn : ¬ n < 0) (hm : n.toNatClampNeg ≤ 1000000) (hd : decode cc pc = .ok (.anewarray idx, 3))
    (k : tX p l e s m args below meth c nL fr lo D aC b0 σ0 r τ (pc + 3) lv (.ref (b0 + tn σ) :: st) (sN σ (b0 + tn σ) (.inr (5, n.toNatClampNeg)) n.toNatClampNeg)) : tX p l e s m args below meth c nL fr lo D aC b0 σ0 r τ pc lv (.int n :: st) σ := by
  have g1 : tn σ + 1 ≤ tn τ := k.1.1
  have g2 : tu σ + n.toNatClampNeg ≤ tu τ := k.1.2
  refine ⟨⟨by omega, by omega⟩, fun h1 h2 H locs ls hl hP hS => zx_sized fun hz => ?_⟩
  have h9 := zx_size C.2.2.2.2.2.2.2.2 h1 hP hS hz
  obtain ⟨hx, hb, -, -, hown, hts, -, ⟨hK, hO⟩, hsz⟩ := C
  refine W.anewA (t := .byte) hx hb hown (hts _ hcl) (hts _ w) rfl hd rfl hn (by omega) (by show _ ≤ tn τ - tn σ0; omega) (by show _ ≤ tu τ - tu σ0; omega) fun cA kA comp f1 f2 f3 f4 => ?_
  have hcA : cA = aC 5 := Option.some.inj (f1.symm.trans (hK.2 5 (aC 5, .array .byte) rfl).2)
  subst hcA
  have e1 : tn σ - tn σ0 + 1 = tn (sN σ (b0 + tn σ) (.inr (5, n.toNatClampNeg)) n.toNatClampNeg) - tn σ0 := by show _ = tn σ + 1 - tn σ0; omega
  have e2 : tu σ - tu σ0 + n.toNatClampNeg = tu (sN σ (b0 + tn σ) (.inr (5, n.toNatClampNeg)) n.toNatClampNeg) - tu σ0 := by show _ = tu σ + n.toNatClampNeg - tu σ0; omega
  rw [e1, e2, h9]
  generalize hH1 : H.push ({ cls := aC 5, slots := Array.replicate n.toNatClampNeg .null, vm := .none } : Cell) = H1
  have z1 : H1.size = H.size + 1 := by rw [← hH1, Array.size_push]
  have q1 : H1[H.size]? = some (arrV (aC 5) n.toNatClampNeg (fun _ => .null)) := by rw [← hH1, Array.getElem?_push_size, ← arrV_new]
  have o1 : ∀ q : Nat, q < H.size → H1[q]? = H[q]? := fun q hq => by rw [← hH1, Array.getElem?_push, if_neg (Nat.ne_of_lt hq)]
  refine k.2 (by show _ ≤ tn σ + 1; omega) (by show _ ≤ tu σ + n.toNatClampNeg; omega) H1 locs ls hl ?_ ⟨Nat.le_trans hS.1 (by omega), fun x h1 h2 => (o1 x (Nat.lt_of_lt_of_le h1 hS.1)).trans (hS.2.1 x h1 h2), hS.2.2⟩
  have hw : tW aC b0 σ ++ [(b0 + tn σ, (Sum.inl (aC 5, n.toNatClampNeg, .inr (.inr (.inr (.inr (fun _ => none))))) : va_E))] = tW aC b0 (sN σ (b0 + tn σ) (.inr (5, n.toNatClampNeg)) n.toNatClampNeg) := by
    rw [← sN_ar (aC := aC) (σ := σ) (a := b0 + tn σ) (t := 5) (n := n.toNatClampNeg) (u := n.toNatClampNeg) (by simp [tR, tA, sN, va_up])]
    exact tW_push rfl (fun b _ hb => sN_old (by omega))
  rw [← hw]
  refine (hP.kept (fun k x hx => o1 x.1 ((hP k x hx).lt))).app (fun k x hx => ?_)
  have hz : k < 1 := (List.getElem?_eq_some_iff.mp hx).1
  rw [show k = 0 by omega] at hx
  cases hx
  show H1[b0 + tn σ]? = some (vp_cell _ _)
  rw [vp_cell_q, ← h9]
  exact q1
/-- 'throw OFF': getstatic; athrow -/
theorem zx_off (C : tCx p l s m args meth c "SyncTreeModel" cc nL ret D aC b0 σ0) (htab : ∀ x ∈ c.exceptionTable.toList, False) {idx : Nat} (w : Cond.fieldLink "SyncTreeModel" idx "SyncTreeModel" "OFF" "LSyncTreeModel$Off;" ∈ lwg) (d0 : decode cc pc = .ok (.getstatic idx, 3)) (d3 : decode cc (pc + 3) = .ok (.athrow, 1)) (hr : r = .inr "SyncTreeModel$Off") (hτ : τ = σ) : tX p l e s m args below meth c nL fr lo D aC b0 σ0 r τ pc lv [] σ := by
  subst hτ
  refine ⟨⟨Nat.le_refl _, Nat.le_refl _⟩, fun h1 h2 H locs ls hl hP hS => zx_sized fun hz => ?_⟩
  have h9 := zx_size C.2.2.2.2.2.2.2.2 h1 hP hS hz
  obtain ⟨hx, hb, hrt, hml, hown, hts, hlk, ⟨hK, ⟨-, -, -, -, a, ce, o5, o6, o7, o8, o9⟩, hst⟩, hsz⟩ := id C
  refine va_gets hx hb o5 hS hown (hts _ w) (fun _ h => h) d0 ?_
  intro T hT X
  obtain ⟨st1, hrun, hend, hW, hsm⟩ := X.athrowLeaves hx (g := F0 m (pc + 3) ls [.ref a]) rfl rfl rfl (fun x hx => (htab x hx).elim) rfl (by rw [hb]; exact d3) hlk
  have hHa : T.heap[a]? = some ce := by rw [hT, hS.2.1 a (by omega) (Nat.not_le.mpr o6)]; exact o7
  exact ⟨_, st1, .threw a, hrun, hend, Or.inr ⟨a, rfl, "SyncTreeModel$Off", ce, locs, ⟨hr, ⟨by show va_P D vwC2 (tW aC b0 τ) T.heap; rw [hT]; exact hP, by show T.heap.size = _; rw [hT]; exact h9⟩, fun q hq => by show T.heap[q]? = _; rw [hT]; exact hS.2.1 q (by omega) (Nat.not_le.mpr hq)⟩, hHa, o8, o9, hW, hsm, hS.2.2⟩⟩
end TAA
