/-! ===== ARRAYS, NEW CELLS, ENDS ===== -/
section TZ
variable {p : Program} {l : Launch} {e : Env} {s : State} {m : MethodId} {args : Array Value} {below : List Frame} {meth : Method} {c : Code} {nL fr lo : Nat} {D : va_G} {aC : Nat → ClassId} {b0 : Nat} {σ0 : tM} {r : Option Value ⊕ String} {τ : tM} {pc : Nat} {lv : List (Nat × Value)} {st : List Value} {σ : tM} {own : String} {cc : ByteArray} {ret : Option FieldType}
theorem zx_alen (C : tCx p l s m args meth c own cc nL ret D aC b0 σ0) {a t n : Nat} (hk : tk σ a = .inr (t, n)) (ht : t < 6) (hi : tIn b0 σ a) (hd : decode cc pc = .ok (.arraylength, 1))
    (k : tX p l e s m args below meth c nL fr lo D aC b0 σ0 r τ (pc + 1) lv (.int (nI n) :: st) σ) : tX p l e s m args below meth c nL fr lo D aC b0 σ0 r τ pc lv (.ref a :: st) σ := by
  refine ⟨k.1, fun h1 h2 H locs ls hl hP hS => ?_⟩
  obtain ⟨hx, hb, -, -, hown, hts, -, ⟨hK, hO⟩, -⟩ := C
  have he := tW_get (aC := aC) hi
  rw [tE_r hk] at he
  have hty : ∃ ty, (tT aC)[t]? = some (aC t, ty) := by
    match t, ht with
    | 0, _ => exact ⟨_, rfl⟩
    | 1, _ => exact ⟨_, rfl⟩
    | 2, _ => exact ⟨_, rfl⟩
    | 3, _ => exact ⟨_, rfl⟩
    | 4, _ => exact ⟨_, rfl⟩
    | 5, _ => exact ⟨_, rfl⟩
  obtain ⟨ty, hty⟩ := hty
  exact va_alen hx hb hK hP (a - b0) t he hty rfl hd (k.2 h1 h2 H locs ls hl hP hS)
theorem zx_iald (C : tCx p l s m args meth c own cc nL ret D aC b0 σ0) {a n : Nat} {i : Int32} (hk : tk σ a = .inr (0, n)) (hi : tIn b0 σ a) (hin : vp_in i n) (hd : decode cc pc = .ok (.iaload, 1))
    (k : tX p l e s m args below meth c nL fr lo D aC b0 σ0 r τ (pc + 1) lv (.int (tI σ a i.toNatClampNeg) :: st) σ) : tX p l e s m args below meth c nL fr lo D aC b0 σ0 r τ pc lv (.int i :: .ref a :: st) σ := by
  refine ⟨k.1, fun h1 h2 H locs ls hl hP hS => ?_⟩
  obtain ⟨hx, hb, -, -, hown, hts, -, ⟨hK, hO⟩, -⟩ := C
  have he := tW_get (aC := aC) hi
  rw [tE_r hk] at he
  exact va_iald hx hb hK hP (a - b0) 0 he rfl hin hd (k.2 h1 h2 H locs ls hl hP hS)
theorem zx_bald (C : tCx p l s m args meth c own cc nL ret D aC b0 σ0) {a n : Nat} {i : Int32} (hk : tk σ a = .inr (1, n)) (hi : tIn b0 σ a) (hin : vp_in i n) (hd : decode cc pc = .ok (.baload, 1))
    (k : tX p l e s m args below meth c nL fr lo D aC b0 σ0 r τ (pc + 1) lv (.int (tI σ a i.toNatClampNeg) :: st) σ) : tX p l e s m args below meth c nL fr lo D aC b0 σ0 r τ pc lv (.int i :: .ref a :: st) σ := by
  refine ⟨k.1, fun h1 h2 H locs ls hl hP hS => ?_⟩
  obtain ⟨hx, hb, -, -, hown, hts, -, ⟨hK, hO⟩, -⟩ := C
  have he := tW_get (aC := aC) hi
  rw [tE_r hk] at he
  exact va_bald hx hb hK hP (a - b0) 1 he rfl hin hd (k.2 h1 h2 H locs ls hl hP hS)
theorem zx_zald (C : tCx p l s m args meth c own cc nL ret D aC b0 σ0) {a n : Nat} {i : Int32} (hk : tk σ a = .inr (2, n)) (hi : tIn b0 σ a) (hin : vp_in i n) (hd : decode cc pc = .ok (.baload, 1))
    (k : tX p l e s m args below meth c nL fr lo D aC b0 σ0 r τ (pc + 1) lv (.int (tI σ a i.toNatClampNeg) :: st) σ) : tX p l e s m args below meth c nL fr lo D aC b0 σ0 r τ pc lv (.int i :: .ref a :: st) σ := by
  refine ⟨k.1, fun h1 h2 H locs ls hl hP hS => ?_⟩
  obtain ⟨hx, hb, -, -, hown, hts, -, ⟨hK, hO⟩, -⟩ := C
  have he := tW_get (aC := aC) hi
  rw [tE_r hk] at he
  exact va_zald hx hb hK hP (a - b0) 2 he rfl hin hd (k.2 h1 h2 H locs ls hl hP hS)
theorem zx_lald (C : tCx p l s m args meth c own cc nL ret D aC b0 σ0) {a n : Nat} {i : Int32} (hk : tk σ a = .inr (3, n)) (hi : tIn b0 σ a) (hin : vp_in i n) (hd : decode cc pc = .ok (.laload, 1))
    (k : tX p l e s m args below meth c nL fr lo D aC b0 σ0 r τ (pc + 1) lv (.long (tL σ a i.toNatClampNeg) :: st) σ) : tX p l e s m args below meth c nL fr lo D aC b0 σ0 r τ pc lv (.int i :: .ref a :: st) σ := by
  refine ⟨k.1, fun h1 h2 H locs ls hl hP hS => ?_⟩
  obtain ⟨hx, hb, -, -, hown, hts, -, ⟨hK, hO⟩, -⟩ := C
  have he := tW_get (aC := aC) hi
  rw [tE_r hk] at he
  exact va_lald hx hb hK hP (a - b0) 3 he rfl hin hd (k.2 h1 h2 H locs ls hl hP hS)
theorem zx_aald (C : tCx p l s m args meth c own cc nL ret D aC b0 σ0) {a n : Nat} {i : Int32} (hk : tk σ a = .inr (4, n)) (hi : tIn b0 σ a) (hin : vp_in i n) (hd : decode cc pc = .ok (.aaload, 1)) (v : Value) (hv : va_rf (tA σ a i.toNatClampNeg) = v)
    (k : tX p l e s m args below meth c nL fr lo D aC b0 σ0 r τ (pc + 1) lv (v :: st) σ) : tX p l e s m args below meth c nL fr lo D aC b0 σ0 r τ pc lv (.int i :: .ref a :: st) σ := by
  subst hv
  refine ⟨k.1, fun h1 h2 H locs ls hl hP hS => ?_⟩
  obtain ⟨hx, hb, -, -, hown, hts, -, ⟨hK, hO⟩, -⟩ := C
  have he := tW_get (aC := aC) hi
  rw [tE_r hk] at he
  exact va_aldq hx hb hK hP (a - b0) 4 he rfl hin hd (k.2 h1 h2 H locs ls hl hP hS)
theorem zx_iast (C : tCx p l s m args meth c own cc nL ret D aC b0 σ0) {a n : Nat} {i : Int32} {x : Int32} (hk : tk σ a = .inr (0, n)) (hi : tIn b0 σ a) (hin : vp_in i n) (hd : decode cc pc = .ok (.iastore, 1))
    (k : tX p l e s m args below meth c nL fr lo D aC b0 σ0 r τ (pc + 1) lv st (sI σ a i.toNatClampNeg x)) : tX p l e s m args below meth c nL fr lo D aC b0 σ0 r τ pc lv (.int x :: .int i :: .ref a :: st) σ := by
  refine ⟨k.1, fun h1 h2 H locs ls hl hP hS => ?_⟩
  obtain ⟨hx, hb, -, -, hown, hts, -, ⟨hK, hO⟩, -⟩ := C
  have he := tW_get (aC := aC) hi
  rw [tE_r hk] at he
  refine va_iast hx hb hK hP tW_D hS (a - b0) 0 he rfl hin hd fun H1 locs1 q1 _ q3 => ?_
  have hw := tW_set (aC := aC) (τ := sI σ a i.toNatClampNeg x) hi rfl (fun b hb => tE_congr rfl (tup_ne hb) rfl rfl)
  rw [tE_r (show tk (sI σ a i.toNatClampNeg x) a = .inr (0, n) from hk)] at hw
  have hr : tR (sI σ a i.toNatClampNeg x) 0 a = tR (sI σ a i.toNatClampNeg x) 0 a := rfl
  refine k.2 h1 h2 H1 locs1 ls hl ?_ q3
  rw [← hw]
  refine cast (congrArg (fun z => va_P D vwC2 ((tW aC b0 σ).set (a - b0) (a, .inl (aC 0, n, z))) H1) ?_) q1
  simp only [tR, tI, sI, tup_row]
  rfl
theorem zx_bast (C : tCx p l s m args meth c own cc nL ret D aC b0 σ0) {a n : Nat} {i : Int32} {x : Int32} (hk : tk σ a = .inr (1, n)) (hi : tIn b0 σ a) (hin : vp_in i n) (hd : decode cc pc = .ok (.bastore, 1))
    (k : tX p l e s m args below meth c nL fr lo D aC b0 σ0 r τ (pc + 1) lv st (sI σ a i.toNatClampNeg (vp_nar .byte x))) : tX p l e s m args below meth c nL fr lo D aC b0 σ0 r τ pc lv (.int x :: .int i :: .ref a :: st) σ := by
  refine ⟨k.1, fun h1 h2 H locs ls hl hP hS => ?_⟩
  obtain ⟨hx, hb, -, -, hown, hts, -, ⟨hK, hO⟩, -⟩ := C
  have he := tW_get (aC := aC) hi
  rw [tE_r hk] at he
  refine va_bast hx hb hK hP tW_D hS (a - b0) 1 he rfl hin hd fun H1 locs1 q1 _ q3 => ?_
  have hw := tW_set (aC := aC) (τ := sI σ a i.toNatClampNeg (vp_nar .byte x)) hi rfl (fun b hb => tE_congr rfl (tup_ne hb) rfl rfl)
  rw [tE_r (show tk (sI σ a i.toNatClampNeg (vp_nar .byte x)) a = .inr (1, n) from hk)] at hw
  have hr : tR (sI σ a i.toNatClampNeg (vp_nar .byte x)) 1 a = tR (sI σ a i.toNatClampNeg (vp_nar .byte x)) 1 a := rfl
  refine k.2 h1 h2 H1 locs1 ls hl ?_ q3
  rw [← hw]
  refine cast (congrArg (fun z => va_P D vwC2 ((tW aC b0 σ).set (a - b0) (a, .inl (aC 1, n, z))) H1) ?_) q1
  simp only [tR, tI, sI, tup_row]
  rfl
theorem zx_zast (C : tCx p l s m args meth c own cc nL ret D aC b0 σ0) {a n : Nat} {i : Int32} {x : Int32} (hk : tk σ a = .inr (2, n)) (hi : tIn b0 σ a) (hin : vp_in i n) (hd : decode cc pc = .ok (.bastore, 1))
    (k : tX p l e s m args below meth c nL fr lo D aC b0 σ0 r τ (pc + 1) lv st (sI σ a i.toNatClampNeg (vp_nar .boolean x))) : tX p l e s m args below meth c nL fr lo D aC b0 σ0 r τ pc lv (.int x :: .int i :: .ref a :: st) σ := by
  refine ⟨k.1, fun h1 h2 H locs ls hl hP hS => ?_⟩
  obtain ⟨hx, hb, -, -, hown, hts, -, ⟨hK, hO⟩, -⟩ := C
  have he := tW_get (aC := aC) hi
  rw [tE_r hk] at he
  refine va_zast hx hb hK hP tW_D hS (a - b0) 2 he rfl hin hd fun H1 locs1 q1 _ q3 => ?_
  have hw := tW_set (aC := aC) (τ := sI σ a i.toNatClampNeg (vp_nar .boolean x)) hi rfl (fun b hb => tE_congr rfl (tup_ne hb) rfl rfl)
  rw [tE_r (show tk (sI σ a i.toNatClampNeg (vp_nar .boolean x)) a = .inr (2, n) from hk)] at hw
  have hr : tR (sI σ a i.toNatClampNeg (vp_nar .boolean x)) 2 a = tR (sI σ a i.toNatClampNeg (vp_nar .boolean x)) 2 a := rfl
  refine k.2 h1 h2 H1 locs1 ls hl ?_ q3
  rw [← hw]
  refine cast (congrArg (fun z => va_P D vwC2 ((tW aC b0 σ).set (a - b0) (a, .inl (aC 2, n, z))) H1) ?_) q1
  simp only [tR, tI, sI, tup_row]
  rfl
theorem zx_last (C : tCx p l s m args meth c own cc nL ret D aC b0 σ0) {a n : Nat} {i : Int32} {x : Int64} (hk : tk σ a = .inr (3, n)) (hi : tIn b0 σ a) (hin : vp_in i n) (hd : decode cc pc = .ok (.lastore, 1))
    (k : tX p l e s m args below meth c nL fr lo D aC b0 σ0 r τ (pc + 1) lv st (sL σ a i.toNatClampNeg x)) : tX p l e s m args below meth c nL fr lo D aC b0 σ0 r τ pc lv (.long x :: .int i :: .ref a :: st) σ := by
  refine ⟨k.1, fun h1 h2 H locs ls hl hP hS => ?_⟩
  obtain ⟨hx, hb, -, -, hown, hts, -, ⟨hK, hO⟩, -⟩ := C
  have he := tW_get (aC := aC) hi
  rw [tE_r hk] at he
  refine va_last hx hb hK hP tW_D hS (a - b0) 3 he rfl hin hd fun H1 locs1 q1 _ q3 => ?_
  have hw := tW_set (aC := aC) (τ := sL σ a i.toNatClampNeg x) hi rfl (fun b hb => tE_congr rfl rfl (tup_ne hb) rfl)
  rw [tE_r (show tk (sL σ a i.toNatClampNeg x) a = .inr (3, n) from hk)] at hw
  have hr : tR (sL σ a i.toNatClampNeg x) 3 a = tR (sL σ a i.toNatClampNeg x) 3 a := rfl
  refine k.2 h1 h2 H1 locs1 ls hl ?_ q3
  rw [← hw]
  refine cast (congrArg (fun z => va_P D vwC2 ((tW aC b0 σ).set (a - b0) (a, .inl (aC 3, n, z))) H1) ?_) q1
  simp only [tR, tL, sL, tup_row]
  rfl
theorem zx_astN (C : tCx p l s m args meth c own cc nL ret D aC b0 σ0) {a n : Nat} {i : Int32}  (hk : tk σ a = .inr (4, n)) (hi : tIn b0 σ a) (hin : vp_in i n) (hd : decode cc pc = .ok (.aastore, 1))
    (k : tX p l e s m args below meth c nL fr lo D aC b0 σ0 r τ (pc + 1) lv st (sA σ a i.toNatClampNeg none)) : tX p l e s m args below meth c nL fr lo D aC b0 σ0 r τ pc lv (.null :: .int i :: .ref a :: st) σ := by
  refine ⟨k.1, fun h1 h2 H locs ls hl hP hS => ?_⟩
  obtain ⟨hx, hb, -, -, hown, hts, -, ⟨hK, hO⟩, -⟩ := C
  have he := tW_get (aC := aC) hi
  rw [tE_r hk] at he
  refine va_astqN hx hb hK hP tW_D hS (a - b0) 4 he rfl hin hd fun H1 locs1 q1 _ q3 => ?_
  have hw := tW_set (aC := aC) (τ := sA σ a i.toNatClampNeg none) hi rfl (fun b hb => tE_congr rfl rfl rfl (tup_ne hb))
  rw [tE_r (show tk (sA σ a i.toNatClampNeg none) a = .inr (4, n) from hk)] at hw
  have hr : tR (sA σ a i.toNatClampNeg none) 4 a = tR (sA σ a i.toNatClampNeg none) 4 a := rfl
  refine k.2 h1 h2 H1 locs1 ls hl ?_ q3
  rw [← hw]
  refine cast (congrArg (fun z => va_P D vwC2 ((tW aC b0 σ).set (a - b0) (a, .inl (aC 4, n, z))) H1) ?_) q1
  simp only [tR, tA, sA, tup_row]
theorem zx_ast (C : tCx p l s m args meth c own cc nL ret D aC b0 σ0) {a n v : Nat} {i : Int32} (hk : tk σ a = .inr (4, n)) (hi : tIn b0 σ a) (hv : tk σ v = .inl 4) (hvi : tIn b0 σ v) (hin : vp_in i n) (hd : decode cc pc = .ok (.aastore, 1))
    (k : tX p l e s m args below meth c nL fr lo D aC b0 σ0 r τ (pc + 1) lv st (sA σ a i.toNatClampNeg (some v))) : tX p l e s m args below meth c nL fr lo D aC b0 σ0 r τ pc lv (.ref v :: .int i :: .ref a :: st) σ := by
  refine ⟨k.1, fun h1 h2 H locs ls hl hP hS => ?_⟩
  obtain ⟨hx, hb, -, -, hown, hts, -, ⟨hK, hO⟩, -⟩ := C
  have he := tW_get (aC := aC) hi
  rw [tE_r hk] at he
  have hev := tW_get (aC := aC) hvi
  rw [tE_o hv] at hev
  refine va_astq (r := (RX4, TX4, 2)) hx hb hK hP tW_D hS (a - b0) 4 (v - b0) 4 he rfl hev rfl hin hd fun H1 locs1 q1 _ q3 => ?_
  have hw := tW_set (aC := aC) (τ := sA σ a i.toNatClampNeg (some v)) hi rfl (fun b hb => tE_congr rfl rfl rfl (tup_ne hb))
  rw [tE_r (show tk (sA σ a i.toNatClampNeg (some v)) a = .inr (4, n) from hk)] at hw
  refine k.2 h1 h2 H1 locs1 ls hl ?_ q3
  rw [← hw]
  refine cast (congrArg (fun z => va_P D vwC2 ((tW aC b0 σ).set (a - b0) (a, .inl (aC 4, n, z))) H1) ?_) q1
  simp only [tR, tA, sA, tup_row]
theorem sN_old {a b : Nat} {k : Nat ⊕ (Nat × Nat)} {n : Nat} (h : b ≠ a) : tE aC (sN σ a k n) b = tE aC σ b := by
  refine tE_congr ?_ ?_ ?_ ?_ <;> simp [tk, tI, tL, tA, sN, va_up, h]
theorem sN_at {a : Nat} {ci n : Nat} (hnf : ∀ k, k < nF ci → tyC ci k ≠ .float ∧ tyC ci k ≠ .double) : tE aC (sN σ a (.inl ci) n) a = .inr (ci, (List.range (nF ci)).map fun j => defaultValue (tyC ci j)) := by
  rw [tE_o (show tk (sN σ a (.inl ci) n) a = .inl ci by simp [tk, sN, va_up])]
  congr 2
  apply List.map_congr_left
  intro j hj
  have h9 := hnf j (List.mem_range.mp hj)
  revert h9
  cases tyC ci j <;> simp [tV, tI, tL, tA, sN, va_up, va_rf, defaultValue]
theorem zx_new (C : tCx p l s m args meth c own cc nL ret D aC b0 σ0) {ci idx : Nat} (hc : tCl ci) (hl0 : Cond.classLink own idx (tcl ci).1 ∈ lwg) (hins : Cond.instantiable (tcl ci).1 (nF ci) ∈ lwg) (hini : Cond.initialized (tcl ci).1 ∈ lwg) (hd : decode cc pc = .ok (.new idx, 3))
    (k : tX p l e s m args below meth c nL fr lo D aC b0 σ0 r τ (pc + 3) lv (.ref (b0 + tn σ) :: st) (sN σ (b0 + tn σ) (.inl ci) (nF ci))) : tX p l e s m args below meth c nL fr lo D aC b0 σ0 r τ pc lv st σ := by
  have g1 : tn σ + 1 ≤ tn τ := k.1.1
  have g2 : tu σ + nF ci ≤ tu τ := k.1.2
  refine ⟨⟨by omega, by omega⟩, fun h1 h2 H locs ls hl hP hS => ?_⟩
  obtain ⟨hx, hb, -, -, hown, hts, -, ⟨hK, hO⟩, hsz⟩ := C
  obtain ⟨c1, c2, c3, c4, c5⟩ := hc.at
  refine va_new (fs := (List.range (nF ci)).map fun j => defaultValue (tyC ci j)) hx hb hts c2 (tyC ci) c3 hown (hts _ hl0) (hts _ hins) (hts _ hini) hK hP tW_D hS (fun q hq => by show b0 ≤ q; have h9 : s.heap.size ≤ q := hq; omega) c1 (fun j hj => by simp [vp_V, List.getElem?_range hj]) (by show _ ≤ tn τ - tn σ0; omega) (by show _ ≤ tu τ - tu σ0; omega) hd fun q H1 q1 q2 q3 => ?_
  refine zx_sized fun hz => ?_
  have hq0 : (tW aC b0 σ ++ [(q, (Sum.inr (ci, (List.range (nF ci)).map fun j => defaultValue (tyC ci j)) : va_E))])[tn σ]? = some (q, Sum.inr (ci, (List.range (nF ci)).map fun j => defaultValue (tyC ci j))) := by
    rw [List.getElem?_append_right (by simp [tW])]
    simp [tW]
  have hq1 : q < H1.size := (q1 _ _ hq0).lt
  have hq2 : b0 ≤ q := q2.2 _ _ hq0
  have hq3 : q = b0 + tn σ := by
    by_cases hlt : q < b0 + tn σ
    · have hi : tIn b0 σ q := ⟨hq2, hlt⟩
      have hg := tW_get (aC := aC) hi
      have hg2 : (tW aC b0 σ ++ [(q, (Sum.inr (ci, (List.range (nF ci)).map fun j => defaultValue (tyC ci j)) : va_E))])[q - b0]? = some (q, tE aC σ q) := by
        rw [List.getElem?_append_left (by simp [tW]; omega)]
        exact hg
      have := q2.1 _ _ _ _ hg2 hq0 rfl
      omega
    · omega
  subst hq3
  have hw : tW aC b0 σ ++ [(b0 + tn σ, (Sum.inr (ci, (List.range (nF ci)).map fun j => defaultValue (tyC ci j)) : va_E))] = tW aC b0 (sN σ (b0 + tn σ) (.inl ci) (nF ci)) := by
    rw [← sN_at (aC := aC) (σ := σ) (a := b0 + tn σ) (n := nF ci) c5]
    exact tW_push rfl (fun b _ hb => sN_old (by omega))
  rw [hw] at q1
  have e1 : tn σ - tn σ0 + 1 = tn (sN σ (b0 + tn σ) (.inl ci) (nF ci)) - tn σ0 := by show _ = tn σ + 1 - tn σ0; omega
  have e2 : tu σ - tu σ0 + nF ci = tu (sN σ (b0 + tn σ) (.inl ci) (nF ci)) - tu σ0 := by show _ = tu σ + nF ci - tu σ0; omega
  rw [e1, e2]
  exact k.2 (by show _ ≤ tn σ + 1; omega) (by show _ ≤ tu σ + nF ci; omega) H1 locs ls hl q1 q3
theorem zx_iret (C : tCx p l s m args meth c own cc nL ret D aC b0 σ0) {x : Int32} (hret : ret = some .int) (hr : r = .inl (some (.int x))) (hτ : τ = σ) (hd : decode cc pc = .ok (.ireturn, 1)) : tX p l e s m args below meth c nL fr lo D aC b0 σ0 r τ pc lv [.int x] σ := by
  subst hτ
  refine ⟨⟨Nat.le_refl _, Nat.le_refl _⟩, fun h1 h2 H locs ls hl hP hS => ?_⟩
  obtain ⟨hx, hb, hrt, -, hown, hts, hlk, ⟨hK, hO⟩, hsz⟩ := C
  refine zx_sized fun hz => vx_ret ?_
  have h9 := zx_size hsz h1 hP hS hz
  exact W.iret hx hb (hrt.trans hret) (fun t ht hW => ⟨⟨_, hr, rfl⟩, ⟨by rw [ht]; exact hP, by rw [ht]; exact h9⟩, fun q hq => by rw [ht]; exact hS.2.1 q (by omega) (Nat.not_le.mpr hq)⟩) hS.2.2 hd
theorem zx_lret (C : tCx p l s m args meth c own cc nL ret D aC b0 σ0) {x : Int64} (hret : ret = some .long) (hr : r = .inl (some (.long x))) (hτ : τ = σ) (hd : decode cc pc = .ok (.lreturn, 1)) : tX p l e s m args below meth c nL fr lo D aC b0 σ0 r τ pc lv [.long x] σ := by
  subst hτ
  refine ⟨⟨Nat.le_refl _, Nat.le_refl _⟩, fun h1 h2 H locs ls hl hP hS => ?_⟩
  obtain ⟨hx, hb, hrt, -, hown, hts, hlk, ⟨hK, hO⟩, hsz⟩ := C
  refine zx_sized fun hz => vx_ret ?_
  have h9 := zx_size hsz h1 hP hS hz
  exact W.lret hx hb (hrt.trans hret) (fun t ht hW => ⟨⟨_, hr, rfl⟩, ⟨by rw [ht]; exact hP, by rw [ht]; exact h9⟩, fun q hq => by rw [ht]; exact hS.2.1 q (by omega) (Nat.not_le.mpr hq)⟩) hS.2.2 hd
theorem zx_zret (C : tCx p l s m args meth c own cc nL ret D aC b0 σ0) {x : Int32} {ty : FieldType} (hret : ret = some ty) (hn : narrow ty (.int x) = .int x) (hr : r = .inl (some (.int x))) (hτ : τ = σ) (hd : decode cc pc = .ok (.ireturn, 1)) : tX p l e s m args below meth c nL fr lo D aC b0 σ0 r τ pc lv [.int x] σ := by
  subst hτ
  refine ⟨⟨Nat.le_refl _, Nat.le_refl _⟩, fun h1 h2 H locs ls hl hP hS => ?_⟩
  obtain ⟨hx, hb, hrt, -, hown, hts, hlk, ⟨hK, hO⟩, hsz⟩ := C
  refine zx_sized fun hz => vx_ret ?_
  have h9 := zx_size hsz h1 hP hS hz
  exact W.zret hx hb (hrt.trans hret) hn (fun t ht hW => ⟨⟨_, hr, rfl⟩, ⟨by rw [ht]; exact hP, by rw [ht]; exact h9⟩, fun q hq => by rw [ht]; exact hS.2.1 q (by omega) (Nat.not_le.mpr hq)⟩) hS.2.2 hd
theorem zx_vret (C : tCx p l s m args meth c own cc nL ret D aC b0 σ0) (hret : ret = none) (hr : r = .inl none) (hτ : τ = σ) (hd : decode cc pc = .ok (.return_, 1)) : tX p l e s m args below meth c nL fr lo D aC b0 σ0 r τ pc lv [] σ := by
  subst hτ
  refine ⟨⟨Nat.le_refl _, Nat.le_refl _⟩, fun h1 h2 H locs ls hl hP hS => ?_⟩
  obtain ⟨hx, hb, hrt, -, hown, hts, hlk, ⟨hK, hO⟩, hsz⟩ := C
  refine zx_sized fun hz => vx_ret ?_
  have h9 := zx_size hsz h1 hP hS hz
  exact W.vret hx hb (hrt.trans hret) (fun t ht hW => ⟨⟨_, hr, rfl⟩, ⟨by rw [ht]; exact hP, by rw [ht]; exact h9⟩, fun q hq => by rw [ht]; exact hS.2.1 q (by omega) (Nat.not_le.mpr hq)⟩) hS.2.2 hd
theorem zx_aret (C : tCx p l s m args meth c own cc nL ret D aC b0 σ0) {x : Option Nat} {rt : FieldType} (hret : ret = some rt) (hrt : (∃ n, rt = .object n) ∨ ∃ t, rt = .array t) (hr : r = .inl (some (va_rf x))) (hτ : τ = σ) (hd : decode cc pc = .ok (.areturn, 1)) : tX p l e s m args below meth c nL fr lo D aC b0 σ0 r τ pc lv [va_rf x] σ := by
  subst hτ
  refine ⟨⟨Nat.le_refl _, Nat.le_refl _⟩, fun h1 h2 H locs ls hl hP hS => ?_⟩
  obtain ⟨hx, hb, hrt0, -, hown, hts, hlk, ⟨hK, hO⟩, hsz⟩ := C
  refine zx_sized fun hz => vx_ret ?_
  have h9 := zx_size hsz h1 hP hS hz
  exact W.aret hx hb (hrt0.trans hret) hrt (va_rf_or x) (fun t ht hW => ⟨⟨_, hr, rfl⟩, ⟨by rw [ht]; exact hP, by rw [ht]; exact h9⟩, fun q hq => by rw [ht]; exact hS.2.1 q (by omega) (Nat.not_le.mpr hq)⟩) hS.2.2 hd
end TZ
