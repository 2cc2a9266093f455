section TSL
variable {p : Program} {l : Launch} {e : Env} {s : State} {m : MethodId} {args : Array Value} {below : List Frame} {meth : Method} {c : Code} {nL fr lo : Nat} {D : va_G} {aC : Nat → ClassId} {b0 : Nat} {σ0 : tM} {r : Option Value ⊕ String} {τ : tM} {pc : Nat} {lv : List (Nat × Value)} {st : List Value} {σ : tM} {own : String} {cc : ByteArray} {ret : Option FieldType} {b L : Nat} {xs : Nat → Int32}
theorem zx_sld (C : tCx p l s m args meth c own cc nL ret D aC b0 σ0) (hX : va_X b L xs s s.heap) (hbb : b < b0) {i : Int32} (hin : vp_in i L) (hd : decode cc pc = .ok (.iaload, 1))
    (k : tX p l e s m args below meth c nL fr lo D aC b0 σ0 r τ (pc + 1) lv (.int (xs i.toNatClampNeg) :: st) σ) : tX p l e s m args below meth c nL fr lo D aC b0 σ0 r τ pc lv (.int i :: .ref b :: st) σ :=
  ⟨k.1, fun h1 h2 H locs ls hl hP hS => va_sld C.1 C.2.1 hX (by have := C.2.2.2.2.2.2.2.2; omega) (Nat.not_le.mpr hbb) hS hin hd (k.2 h1 h2 H locs ls hl hP hS)⟩
theorem zx_slen (C : tCx p l s m args meth c own cc nL ret D aC b0 σ0) (hX : va_X b L xs s s.heap) (hbb : b < b0) (hd : decode cc pc = .ok (.arraylength, 1))
    (k : tX p l e s m args below meth c nL fr lo D aC b0 σ0 r τ (pc + 1) lv (.int (Int32.ofNat L) :: st) σ) : tX p l e s m args below meth c nL fr lo D aC b0 σ0 r τ pc lv (.ref b :: st) σ :=
  ⟨k.1, fun h1 h2 H locs ls hl hP hS => va_slen C.1 C.2.1 hX (by have := C.2.2.2.2.2.2.2.2; omega) (Nat.not_le.mpr hbb) hS hd (k.2 h1 h2 H locs ls hl hP hS)⟩
end TSL
