/-! ===== PURE: the journal begins anew, in the class ===== -/
def rsC (C : tS) (to : Nat) : tS := fl 19 0 0 64 (emF (up2 (up2 (up2 (up2 (up2 (up2 (up2 C 20 12 to) 20 13 to) 20 14 to) 20 15 to) 20 16 to) 20 9 0) 20 10 (C 20 11)) (to + 1))
section RST
variable {Φ : tPh} {b0 fu : Nat} {σ τ : tM} {bi sp : Nat → Nat} {w : Nat → Nat × Nat} {C C' X : tS} {D D' D'' : tD} {A B : tS} {J J' : tJ} {K n m k r b id wh e o un fr to : Nat}
theorem restart_c (h : CM b0 σ C D) (hc : ci C) (ht : to < 1000000) (hu : 3000 ≤ fu) : wp (FC b0) σ (m_X1_restart b0 fu (b0 + 20) (nI to) σ) (fun _ τ => CM b0 τ (rsC C to) D) := by
  have b11 := cb_20 h.ca 11
  have hx : to < bndC 20 := by
    show to < 2147483648
    omega
  have k1 := CM_fix (o := 20) (j := 12) (x := to) (v := nI to) h rfl rfl hx
  have k2 := CM_fix (o := 20) (j := 13) (x := to) (v := nI to) k1 rfl rfl hx
  have k3 := CM_fix (o := 20) (j := 14) (x := to) (v := nI to) k2 rfl rfl hx
  have k4 := CM_fix (o := 20) (j := 15) (x := to) (v := nI to) k3 rfl rfl hx
  have k5 := CM_fix (o := 20) (j := 16) (x := to) (v := nI to) k4 rfl rfl hx
  have k6 := CM_fix (o := 20) (j := 9) (x := 0) (v := 0) k5 rfl rfl (by decide)
  have e11 := cf_20_11 k6.ca
  rw [up2_j (by decide), up2_j (by decide), up2_j (by decide), up2_j (by decide), up2_j (by decide), up2_j (by decide)] at e11
  have k7 := CM_fix (o := 20) (j := 10) (x := C 20 11) (v := nI (C 20 11)) k6 rfl rfl b11
  have f7 := FC_2 (FC_2 (FC_2 (FC_2 (FC_2 (FC_2 (FC_sI (o := 20) (j := 12) (v := nI to) h.rf (by omega)) (FC_sI (o := 20) (j := 13) (v := nI to) k1.rf (by omega))) (FC_sI (o := 20) (j := 14) (v := nI to) k2.rf (by omega))) (FC_sI (o := 20) (j := 15) (v := nI to) k3.rf (by omega))) (FC_sI (o := 20) (j := 16) (v := nI to) k4.rf (by omega))) (FC_sI (o := 20) (j := 9) (v := 0) k5.rf (by omega))) (FC_sI (o := 20) (j := 10) (v := nI (C 20 11)) k6.rf (by omega))
  refine wp_grw (FC_good b0) ?_
  unfold rsC
  rw [ckC_20 h.lay, e11]
  generalize sI (sI (sI (sI (sI (sI (sI σ (b0 + 20) 12 (nI to)) (b0 + 20) 13 (nI to)) (b0 + 20) 14 (nI to)) (b0 + 20) 15 (nI to)) (b0 + 20) 16 (nI to)) (b0 + 20) 9 0) (b0 + 20) 10 (nI (C 20 11)) = ρ at k7 f7
  have c7 : ci (up2 (up2 (up2 (up2 (up2 (up2 (up2 C 20 12 to) 20 13 to) 20 14 to) 20 15 to) 20 16 to) 20 9 0) 20 10 (C 20 11)) := by
    refine ci_cong hc (fun q _ => ?_) ?_ ?_ ?_ <;> rw [up2_rown (by decide), up2_rown (by decide), up2_rown (by decide), up2_rown (by decide), up2_rown (by decide), up2_rown (by decide), up2_rown (by decide)]
  generalize up2 (up2 (up2 (up2 (up2 (up2 (up2 C 20 12 to) 20 13 to) 20 14 to) 20 15 to) 20 16 to) 20 9 0) 20 10 (C 20 11) = C7 at k7 c7
  rw [osm_p (rfC_20_1 k7.lay), ckC_10 k7.lay, show nI to + 1 = nI (to + 1) from nI_add to 1]
  refine wp_from (FC_good b0) f7 (wp_bind (FC_good b0) (emptyGroup_c (fu := fu) k7 c7 (by omega) hu) ?_)
  intro _ ρ2 q
  rw [ckC_20 q.lay, osm_p (rfC_20_2 q.lay), ckC_18 q.lay]
  refine wp_bind (FC_good b0) (forgetChanges_c (fu := fu) q hu) ?_
  intro _ ρ3 q2
  exact wp_ret ((FC_good b0).1 _) q2
/-- fold, dropAll, restart -/
theorem rpT_c (h : CM b0 σ C D) (hc : ci C) (h1 : dL D ≤ to) (h2 : to ≤ dH D) (h3 : dH D < 1000) (hs : sTz D (dL D) (to - dL D) ≤ C 20 9) (ht : ∀ n, dL D < n → n ≤ dH D → txOk fu D n) (hu : 3000 ≤ fu) {x1 : Int32} {Q : Int32 ⊕ Unit → tM → Prop} (hQ : ∀ ρ C1 D1 D2, FDs (to - dL D) C D C1 D1 → sS D1 D2 → CM b0 ρ (rsC C1 to) (noT D2 to) → Q (.inl (nI to - x1)) ρ) : wp (FC b0) σ (rpT b0 fu (b0 + 20) x1 (nI to) σ) Q := by
  unfold rpT
  rw [ckC_20 h.lay]
  refine wp_bind (FC_good b0) (fold_c (fu := fu) (x := to) (k := to - dL D) h (by omega) (Or.inl (by omega)) (by omega) hs (fun n a b => ht n a (by omega)) (by omega)) ?_
  rintro _ ρ ⟨C1, D1, q1, q2⟩
  obtain ⟨⟨f1, f2, f3, f4, f5, f6, f7, f8, f9⟩, fc, -⟩ := fd_fx _ _ _ _ _ q2 hs
  rw [ckC_20 q1.lay]
  refine wp_bind (FC_good b0) (dropAll_c (fu := fu) (x := to) q1 (by omega) (fun n a b => by
    rw [f3]
    exact (ht n (by omega) (by omega)).2.2.1) (by omega)) ?_
  rintro _ ρ2 ⟨D2, q3, q4⟩
  rw [ckC_20 q4.lay]
  refine wp_bind (FC_good b0) (restart_c (fu := fu) (to := to) q4 (ci_cong hc (fun q _ => by rw [fc 10 (by decide)]) (fc 15 (by decide)) (fc 16 (by decide)) (fc 17 (by decide))) (by omega) hu) ?_
  intro _ ρ3 q5
  exact wp_ret ((FC_good b0).1 _) (hQ ρ3 C1 D1 D2 q2 q3 q5)
end RST
