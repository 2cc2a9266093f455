/-! ===== PURE: an entry added, in both ===== -/
section SRQ
variable {bi : Nat → Nat} {w : Nat → Nat × Nat} {C A B X : tS} {W V : Nat → Nat} {n s i : Nat} {me : Bool}
theorem sn_o {j v p : Nat} (h0 : p ≠ 10) (h1 : p ≠ 11) (h2 : p ≠ 15) : snC C n j v p = C p := by
  unfold snC
  rw [tou_o h0 h2, up2_rown h1]
theorem swo_o {c j v p : Nat} (h0 : p ≠ 10) (h1 : p ≠ 11) (h2 : p ≠ 15) : swoC C c j v p = C p := by
  unfold swoC
  split
  · rw [tou_o h0 h2, up2_rown h1]
  · rfl
/-- a row that obtain leaves -/
def rwO (p : Nat) : Prop := p ≠ 10 ∧ p ≠ 11 ∧ p ≠ 12 ∧ p ≠ 13 ∧ p ≠ 14 ∧ p ≠ 15 ∧ p ≠ 19
theorem gt_o {p : Nat} (h : rwO p) : gtC C n me p = C p := by
  obtain ⟨h0, h1, h2, h3, h4, h5, h6⟩ := h
  unfold gtC
  rw [ob_row h0 h1 h5, ob1_o h0 h1 h2 h3 h4]
theorem obT_o {p : Nat} (h : rwO p) : obT C n i p = C p := by
  have h' := h
  obtain ⟨h0, h1, h2, h3, h4, h5, h6⟩ := h
  have e1 : ∀ (Z : tS), ob1T Z n i p = Z p := fun Z => by
    unfold ob1T
    split
    · rw [sn_o h0 h1 h5, gt_o h']
    · rfl
  have e2 : ∀ (Z : tS), ob2T Z n i p = Z p := fun Z => by
    unfold ob2T
    split
    · split
      · rw [sn_o h0 h1 h5, gt_o h']
      · rw [swo_o h0 h1 h5, gt_o h']
    · rfl
  have e3 : ∀ (Z : tS), ob3T Z n i p = Z p := fun Z => by
    unfold ob3T spC
    rw [up2_rown h6]
    split
    · rw [sn_o h0 h1 h5, gt_o h']
    · rw [swo_o h0 h1 h5, gt_o h']
  unfold obT
  split
  · rw [e3, e2, e1]
  · rfl
/-- the first free entry -/
theorem pf_eq {d : Nat} (hV : VW C A) (hd : d < 64) (h2 : nd A d 0 = 2) (hL : ∀ k, k < eAll A d → eN A d k ≠ 64 → 1 ≤ eL A d k) : alE C d = eAll A d ∧ pfE C d = ffA A d := by
  have ea := (fn_eq hV (o := 0) (st := 0) (l := 1) hd h2 (by omega)).1
  refine ⟨ea, ?_⟩
  unfold pfE ffA
  rw [ea]
  refine sr_cong _ _ (fun k _ hk => ?_)
  rw [(hV.ent d k hd h2 (by omega)).1]
  by_cases c : eN A d k = 64
  · rw [if_pos c, c]
    rfl
  · rw [if_neg c]
    have := hL k (by omega) c
    have e1 : (eL A d k == 0) = false := by
      cases e : eL A d k with
      | zero => omega
      | succ _ => rfl
    have e2 : (eN A d k == 64) = false := by simp [c]
    rw [e1, e2]
theorem SR_add {d o st l v : Nat} (h : SR bi w C A) (hD : DI w A) (hd : d < 64) (h2 : nd A d 0 = 2) (hp : rwO o) (hl : l ≤ 28) (hc : ∀ i, i < l → C o (st + i) < 128) (hv : v < 64) (hi : ffA A d / 8 < 1063) (hf : ffA A d = eAll A d → obN C d (ffA A d / 8) ≤ fre A) (h34 : A 35 34 + 3 < 1000000) :
    ∃ bi' w', SR bi' w' (adEn C d o st l v) (addA A d (fun i => C o (st + i)) l v) ∧ (∀ x, bi x ≠ 0 → bi' x = bi x) := by
  have hV := VW_of h hD
  obtain ⟨z1, z2, z3⟩ := hD.1 d hd h2
  obtain ⟨ea, ep⟩ := pf_eq hV hd h2 (fun k a b => (hD.2.1 d k hd h2 a b).2)
  have fle : ffA A d ≤ eAll A d := by
    have := (sr_le (fun k => eN A d k == 64) (eAll A d) 0).2
    unfold ffA
    omega
  have o11 : o ≠ 11 := hp.2.1
  unfold adEn addA add1 adE1
  rw [ep, ea]
  by_cases c : ffA A d = eAll A d
  · rw [if_pos c, if_neg (by omega)]
    have h0 : hasA A d (ffA A d / 8) = 0 ∨ hasA A d (ffA A d / 8) ≠ 0 := by omega
    obtain ⟨bi', w', g1, g2, g3, g4, g5, g6⟩ := SR_ens (i := ffA A d / 8) h hd (Or.inr h2) (by omega) (fun _ => hf c) h34
    generalize hE : ensA A d (ffA A d / 8) = E at *
    have obo : obT C d (ffA A d / 8) o = C o := obT_o hp
    generalize hC1 : obT C d (ffA A d / 8) = C1 at *
    have k0 : nd E d 0 = 2 := by rw [g2.2.2 d 0 hd (by omega)]; exact h2
    have k1 : nd E d 1 = nd A d 1 := g2.2.2 d 1 hd (by omega)
    have sz : nd A d 1 = 256 * (ffA A d / 8) := by unfold eAll at c; omega
    obtain ⟨a0, a1⟩ := hd_c g1.ok g1.mr hd
    obtain ⟨a1, a2, a3⟩ := a1 (by omega)
    rw [if_neg (by omega)] at a3
    obtain ⟨r1, r2, r3, r4, r5⟩ := setN_r (A := E) (n := d) (v := 256 * (ffA A d / 8 + 1)) (x := 1) hd (by omega) (by omega)
    have H : SR bi' w' (shC C1 d (kiC C1 d) (naC C1 d) (prC C1 d) (szC C1 d + 256)) (setN E d 1 (256 * (ffA A d / 8 + 1))) := by
      refine SR_hdr g1 hd r1 r2 r3 (by omega) (okT_sz g1.ok hd (by omega)) ?_ ?_ ?_ ?_
      · rw [a0, r4 d 0 (by omega), if_neg (by omega)]
      · rw [a1, r4 d 2 (by omega), if_neg (by omega)]
      · rw [a2, r4 d 3 (by omega), if_neg (by omega)]
      · have x0 : nd (setN E d 1 (256 * (ffA A d / 8 + 1))) d 0 = 2 := by rw [r4 d 0 (by omega), if_neg (by omega)]; exact k0
        have x1 : nd (setN E d 1 (256 * (ffA A d / 8 + 1))) d 1 = 256 * (ffA A d / 8 + 1) := by rw [r4 d 1 (by omega), if_pos ⟨rfl, rfl⟩]
        rw [x0, x1, if_neg (by decide), a3, k1, sz]
        omega
    have so : shC C1 d (kiC C1 d) (naC C1 d) (prC C1 d) (szC C1 d + 256) o = C o := by
      unfold shC
      rw [sn_o hp.1 hp.2.1 hp.2.2.2.2.2.1, obo]
    obtain ⟨r, hr⟩ : ∃ r, hasA (setN E d 1 (256 * (ffA A d / 8 + 1))) d (ffA A d / 8) = r + 1 := by
      have : hasA (setN E d 1 (256 * (ffA A d / 8 + 1))) d (ffA A d / 8) ≠ 0 := by
        rw [← hs_slo (by omega), r5 d _ hd (Or.inl (by omega))]
        exact g3
      exact ⟨hasA (setN E d 1 (256 * (ffA A d / 8 + 1))) d (ffA A d / 8) - 1, by omega⟩
    have F := SR_set2 (k := ffA A d) (o := o) (st := st) (l := l) (v := v) H hd (by rw [r4 d 0 (by omega), if_neg (by omega)]; exact k0) (by omega) hr o11 hl (by rw [so]; exact hc) hv
    rw [so] at F
    exact ⟨bi', w', F, g2.1⟩
  · rw [if_neg c, if_pos (by omega)]
    obtain ⟨r, hr⟩ : ∃ r, hasA A d (ffA A d / 8) = r + 1 := by
      have := z3 (ffA A d / 8) (by unfold eAll at fle c; omega)
      exact ⟨hasA A d (ffA A d / 8) - 1, by omega⟩
    exact ⟨bi, w, SR_set2 h hd h2 (by omega) hr o11 hl hc hv, fun _ _ => rfl⟩
end SRQ
