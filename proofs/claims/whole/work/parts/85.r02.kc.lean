/-! ===== PURE: the class's Space and Tree touch their own cells alone ===== -/
def KC (C X : tS) : Prop := ∀ p, ¬ (10 ≤ p ∧ p ≤ 19) → X p = C p
section KCS
variable {C X Y : tS} {c i v n d k m o st l : Nat}
theorem KC_r : KC C C := fun _ _ => rfl
theorem KC_t (h : KC C X) (g : KC X Y) : KC C Y := fun p q => by rw [g p q, h p q]
theorem KC_up {o j x : Nat} (ho : 10 ≤ o ∧ o ≤ 19) : KC C (up2 C o j x) := fun p q => up2_rown (by omega)
theorem KC_tou : KC C (touC C c) := by
  unfold touC
  split
  · exact KC_t (KC_up (by omega)) (KC_up (by omega))
  · exact KC_r
theorem KC_soi : KC C (soiC C c) := by
  unfold soiC
  split
  · exact KC_t (KC_up (by omega)) (KC_up (by omega))
  · exact KC_r
theorem KC_cle : KC C (cleC C c) := by
  unfold cleC
  split
  · exact KC_t (KC_up (by omega)) (KC_up (by omega))
  · exact KC_r
theorem KC_soo : KC C (sooC C c i v) := by
  unfold sooC
  split
  · exact KC_up (by omega)
  · exact KC_r
theorem KC_swo : KC C (swoC C c i v) := by
  unfold swoC
  split
  · exact KC_t (KC_up (by omega)) KC_tou
  · exact KC_r
theorem KC_ado : KC C (adoC C c i n) := by
  unfold adoC
  split
  · exact KC_t (KC_t (KC_up (by omega)) (KC_up (by omega))) (KC_up (by omega))
  · exact KC_r
theorem KC_rv0 : KC C (rv0 C c) := by
  unfold rv0
  split
  · exact KC_r
  · exact KC_t (KC_up (by omega)) (KC_up (by omega))
theorem KC_rvk : KC C (rvkC C c) := by
  unfold rvkC
  split
  · exact KC_t KC_rv0 (KC_t (KC_up (by omega)) (KC_up (by omega)))
  · exact KC_rv0
theorem KC_mrk {g : Bool} : KC C (mrkC C c g) := KC_up (by omega)
theorem KC_ld {W : Nat → Nat} : KC C (ldR C c W) := fun p q => ldR_o (by omega)
theorem KC_ob {g : Bool} : KC C (obC C c n g) := by
  unfold obC
  have h : KC C (touC (mrkC (ldR (adoC (up2 (up2 (up2 C 10 14 c) 10 9 (C 10 9 - 1)) 10 15 (C 10 15 + 1)) c (C 10 15 + 1) n) c (fun _ => 0)) c true) 1) := KC_t (KC_up (by omega)) (KC_t (KC_up (by omega)) (KC_t (KC_up (by omega)) (KC_t KC_ado (KC_t KC_ld (KC_t KC_mrk KC_tou)))))
  cases g with
  | false => exact h
  | true => exact KC_t h KC_tou
theorem KC_rel {g : Bool} : KC C (relC C c g) := by
  unfold relC
  split
  · have h : KC C (cleC (touC (mrkC (up2 (up2 C 12 c (C 10 16 + 1)) 10 10 (C 10 10 + 1)) c false) 1) c) := KC_t (KC_up (by omega)) (KC_t (KC_up (by omega)) (KC_t KC_mrk (KC_t KC_tou KC_cle)))
    cases g with
    | false => exact h
    | true => exact KC_t h KC_rvk
  · exact KC_r
theorem KC_sn : KC C (snC C n i v) := KC_t (KC_up (by omega)) KC_tou
theorem KC_sh {a b e f : Nat} : KC C (shC C n a b e f) := KC_sn
theorem KC_sp : KC C (spC C n i v) := by
  unfold spC
  split
  · exact KC_sn
  · exact KC_swo
theorem KC_gt {g : Bool} : KC C (gtC C n g) := by
  unfold gtC
  exact KC_ob
theorem KC_obT : KC C (obT C n i) := by
  have e1 : ∀ Y : tS, KC Y (ob1T Y n i) := fun Y => by
    unfold ob1T
    split
    · exact KC_t KC_gt KC_sn
    · exact KC_r
  have e2 : ∀ Y : tS, KC Y (ob2T Y n i) := fun Y => by
    unfold ob2T
    split
    · split
      · exact KC_t KC_gt KC_sn
      · exact KC_t KC_gt KC_swo
    · exact KC_r
  have e3 : ∀ Y : tS, KC Y (ob3T Y n i) := fun Y => by
    unfold ob3T
    exact KC_t KC_gt (KC_t KC_sp (KC_up (by omega)))
  unfold obT
  split
  · exact KC_t (e1 _) (KC_t (e2 _) (e3 _))
  · exact KC_r
theorem KC_obL : ∀ m i (C : tS), KC C (obLp n i m C)
  | 0, _, _ => KC_r
  | m + 1, i, C => KC_t KC_obT (KC_obL m (i + 1) _)
theorem KC_de {w : Nat} : KC C (deC C n w) := by
  unfold deC
  split
  · exact KC_t KC_sn KC_rel
  · exact KC_r
theorem KC_dr1 : KC C (dr1 C n i) := KC_t KC_sp (KC_t KC_rel (KC_up (by omega)))
theorem KC_dr2 : KC C (dr2 C n i) := by
  unfold dr2
  split
  · exact KC_t KC_swo (KC_t KC_rel KC_de)
  · exact KC_r
theorem KC_drT : KC C (drT C n i) := by
  unfold drT
  split
  · exact KC_r
  · split
    · exact KC_dr1
    · split
      · exact KC_t KC_dr1 KC_de
      · exact KC_t KC_dr1 KC_dr2
theorem KC_spn : ∀ m i (C : tS), KC C (spnC c v i m C)
  | 0, _, _ => KC_r
  | m + 1, i, C => KC_t KC_soo (KC_spn m (i + 1) _)
theorem KC_zb {e : Nat} : KC C (zbC C n e) := by
  unfold zbC
  split
  · exact KC_r
  · exact KC_t (KC_spn _ _ _) KC_soi
theorem KC_drL : ∀ m (C : tS), KC C (drL n l m C)
  | 0, _ => KC_r
  | m + 1, C => KC_t KC_drT (KC_drL m _)
theorem KC_re {s : Nat} : KC C (reC C n s) := by
  unfold reC
  split
  · exact KC_sh
  · exact KC_t KC_sh (KC_t (KC_up (by omega)) (KC_t KC_zb (KC_drL _ _)))
theorem KC_ds : ∀ m i (C : tS), KC C (dsN n i m C)
  | 0, _, _ => KC_r
  | m + 1, i, C => KC_t KC_sn (KC_ds m (i + 1) _)
theorem KC_dis : KC C (disC C n) := by
  unfold disC
  split
  · exact KC_t KC_re (KC_ds _ _ _)
  · exact KC_ds _ _ _
theorem KC_su {p : Nat} : KC C (suC C n k p) := KC_t KC_sh (KC_up (by omega))
theorem KC_seN {fr : Nat} : ∀ m i (C : tS), KC C (seN1 c fr o st i m C)
  | 0, _, _ => KC_r
  | m + 1, i, C => KC_t KC_soo (KC_seN m (i + 1) _)
theorem KC_seE : KC C (seE C d k o st l n) := KC_t (KC_seN _ _ _) (KC_t KC_soo (KC_t KC_soo KC_tou))
theorem KC_ad : KC C (adEn C d o st l n) := by
  have e1 : KC C (adE1 C d) := by
    unfold adE1
    split
    · exact KC_r
    · exact KC_t KC_obT KC_sh
  unfold adEn
  exact KC_t e1 KC_seE
theorem KC_rm4 : ∀ m i (C : tS), KC C (rm4 c k i m C)
  | 0, _, _ => KC_r
  | m + 1, i, C => KC_t KC_swo (KC_rm4 m (i + 1) _)
theorem KC_rmL : ∀ m (C : tS), KC C (rmL d m C)
  | 0, _ => KC_r
  | m + 1, C => by
    unfold rmL
    split
    · exact KC_t KC_drT (KC_t KC_sh (KC_rmL m _))
    · exact KC_r
theorem KC_rm : KC C (rmEn C d k) := KC_t (KC_rm4 _ _ _) (KC_rmL _ _)
theorem KC_sx : ∀ m i (C : tS), KC C (sxN c k o i m C)
  | 0, _, _ => KC_r
  | m + 1, i, C => KC_t KC_soo (KC_sx m (i + 1) _)
theorem KC_sxT : KC C (sxT C n o l) := KC_t (KC_sx _ _ _) KC_sh
theorem KC_stT {a : Nat} : ∀ m i ce (C : tS), KC C (stT n a i m ce C)
  | 0, _, _, _ => KC_r
  | m + 1, i, ce, C => KC_t (KC_t KC_soo KC_soi) (KC_stT m (i + 1) _ _)
theorem KC_stS {a : Nat} : ∀ m x (C : tS), KC C (stS n a k v x m C)
  | 0, _, _ => KC_r
  | m + 1, x, C => KC_t (KC_t (KC_spn _ _ _) KC_soi) (KC_stS m (x + 1) _)
end KCS
