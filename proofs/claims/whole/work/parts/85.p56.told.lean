/-! ===== PURE: the reference's public methods: told, info ===== -/
def td4 (A : tS) (n : Nat) : Nat := cn (fun i => hasA A n i != 0) 0 ((nd A n 1 + 255) / 256)
def td5 (A : tS) (n : Nat) : Nat := (if nd A n 93 = 0 then 0 else 1) + (if nd A n 94 = 0 then 0 else cn (fun k => A 36 (6080 + (nd A n 94 - 1) * 274 + (2 + k)) != 0) 0 32 + 1)
def td6 (A : tS) (n : Nat) : Nat := if nd A n 0 = 2 then cn (fun k => eN A n k != 64) 0 (eAll A n) else 0
def tdA (A : tS) (n w : Nat) : Nat := if w = 0 then nd A n 0 else if w = 1 then (if nd A n 0 = 3 then nd A n 4 else nd A n 1) else if w = 2 then nd A n 2 else if w = 3 then n else if w = 4 then td4 A n else if w = 5 then td5 A n else td6 A n
section TD
variable {b0 fu : Nat} {σ τ : tM} {A B U : tS} {N N' K K' : Nat} {J : tJ}
theorem td87 (h : RA b0 σ A) (hT : okT A) {n sz : Nat} (hn : n < 64) (hs : sz < 272385) : ∀ m i c f, i + m = (sz + 255) / 256 → m < f → c + m < 100000 → L_X12_told_87 b0 fu f (b0 + 35) (nI n) (nI sz) (nI c) (nI i) σ = some (nI (c + cn (fun i => hasA A n i != 0) i m), σ) := by
  have L := h.lay
  intro m
  induction m with
  | zero =>
    intro i c f hi hf hc
    obtain ⟨f, rfl⟩ : ∃ q, f = q + 1 := ⟨f - 1, by omega⟩
    unfold L_X12_told_87
    rw [ltb_def, show nI sz + (255 : Int32) = nI (sz + 255) from nI_add sz 255, show nI (sz + 255) / (256 : Int32) = nI ((sz + 255) / 256) from nI_dv (d := 256) (by omega) (by omega) (by omega), if_l (by omega) (by omega), if_pos (by omega)]
    rfl
  | succ m ih =>
    intro i c f hi hf hc
    obtain ⟨f, rfl⟩ : ∃ q, f = q + 1 := ⟨f - 1, by omega⟩
    have l1 := has_le hT (n := n) (i := i) hn (by omega)
    unfold L_X12_told_87 J_X12_told_119
    rw [ltb_def, show nI sz + (255 : Int32) = nI (sz + 255) from nI_add sz 255, show nI (sz + 255) / (256 : Int32) = nI ((sz + 255) / 256) from nI_dv (d := 256) (by omega) (by omega) (by omega), if_l (by omega) (by omega), if_neg (by omega), ckR_35 L, has_eq h hT hn (by omega), cll_some]
    show (if nI (hasA A n i) = nI 0 then _ else _) = _
    rw [if_e (by omega) (by omega), ltb_def, ltb_def, ltb_def, ltb_def, ofi]
    have e1 : nI c + (1 : Int32) = nI (c + 1) := nI_add c 1
    have e0 : nI c + (0 : Int32) = nI c := nI_add c 0
    rw [e1, e0, ih (i + 1) (c + 1) f (by omega) (by omega) (by omega), ih (i + 1) c f (by omega) (by omega) (by omega)]
    show _ = some (nI (c + (cn (fun i => hasA A n i != 0) i (m + 1))), σ)
    by_cases e : hasA A n i = 0
    · rw [if_pos e]
      simp [cn, e]
    · rw [if_neg e]
      simp [cn, e]
      congr 1
      omega
theorem td162 (h : RA b0 σ A) (hT : okT A) {r : Nat} (hr : r < 2000) : ∀ m k c f, k + m = 32 → m < f → c + m < 100000 → L_X12_told_162 b0 fu f (b0 + 35) (nI c) (nI r) (nI k) σ = some (nI (c + cn (fun k => A 36 (6080 + r * 274 + (2 + k)) != 0) k m + 1), σ) := by
  have L := h.lay
  have rp : (0 : Int32) ≤ nI r := Int32.not_lt.mp (nI_pos (by omega))
  intro m
  induction m with
  | zero =>
    intro k c f hi hf hc
    obtain ⟨f, rfl⟩ : ∃ q, f = q + 1 := ⟨f - 1, by omega⟩
    unfold L_X12_told_162 J_X12_told_201 J_X12_told_215
    rw [ltb_def, show (32 : Int32) = nI 32 from rfl, if_l (by omega) (by omega), if_pos (by omega), if_pos rp, show nI c + (1 : Int32) = nI (c + 1) from nI_add c 1]
    rfl
  | succ m ih =>
    intro k c f hi hf hc
    obtain ⟨f, rfl⟩ : ∃ q, f = q + 1 := ⟨f - 1, by omega⟩
    unfold L_X12_told_162 J_X12_told_192
    rw [ltb_def, show (32 : Int32) = nI 32 from rfl, if_l (by omega) (by omega), if_neg (by omega), if_neg (nI_pos (by omega)), ckR_35 L, pointer_eq h hr (by omega), cll_some]
    show (if nI (A 36 (6080 + r * 274 + (2 + k))) = nI 0 then _ else _) = _
    rw [if_e (bd_36 h _) (by omega), ltb_def, ltb_def, ltb_def, ltb_def, ofi]
    have e1 : nI c + (1 : Int32) = nI (c + 1) := nI_add c 1
    have e0 : nI c + (0 : Int32) = nI c := nI_add c 0
    rw [e1, e0, ih (k + 1) (c + 1) f (by omega) (by omega) (by omega), ih (k + 1) c f (by omega) (by omega) (by omega)]
    show _ = some (nI (c + (cn (fun k => A 36 (6080 + r * 274 + (2 + k)) != 0) k (m + 1)) + 1), σ)
    by_cases e : A 36 (6080 + r * 274 + (2 + k)) = 0
    · rw [if_pos e]
      simp [cn, e]
    · rw [if_neg e]
      simp [cn, e]
      congr 1
      omega
theorem td224 (h : RA b0 σ A) (hT : okT A) {d : Nat} (hD : dirOk A d) : ∀ m k c f, k + m = eAll A d → m < f → c + m < 100000 → L_X12_told_224 b0 fu f (b0 + 35) (nI d) (nI c) (nI k) σ = some (nI (c + cn (fun k => eN A d k != 64) k m), σ) := by
  have L := h.lay
  have ea : eAll A d < 8512 := by have := hD.2.1; unfold eAll; omega
  intro m
  induction m with
  | zero =>
    intro k c f hi hf hc
    obtain ⟨f, rfl⟩ : ∃ q, f = q + 1 := ⟨f - 1, by omega⟩
    unfold L_X12_told_224 J_X12_told_262
    rw [ltb_def, ckR_35 L, entries_eq h hT hD.1, cll_some, if_l (by omega) (by omega), if_pos (by omega)]
    rfl
  | succ m ih =>
    intro k c f hi hf hc
    obtain ⟨f, rfl⟩ : ∃ q, f = q + 1 := ⟨f - 1, by omega⟩
    have k8 : k / 8 < nd A d 1 / 256 := by unfold eAll at hi; omega
    have b1 := eN_lt hT d k
    unfold L_X12_told_224 J_X12_told_253
    rw [ltb_def, ckR_35 L, entries_eq h hT hD.1, cll_some, if_l (by omega) (by omega), if_neg (by omega), ckR_35 L, entryNode_eq h hT hD.1 (by have := hD.2.1; omega) (hD.2.2 _ k8), cll_some]
    show (if nI (eN A d k) = nI 64 then _ else _) = _
    rw [if_e (by omega) (by omega), ltb_def, ltb_def, ltb_def, ltb_def, ofi]
    have e1 : nI c + (1 : Int32) = nI (c + 1) := nI_add c 1
    have e0 : nI c + (0 : Int32) = nI c := nI_add c 0
    rw [e1, e0, ih (k + 1) (c + 1) f (by omega) (by omega) (by omega), ih (k + 1) c f (by omega) (by omega) (by omega)]
    show _ = some (nI (c + (cn (fun k => eN A d k != 64) k (m + 1))), σ)
    by_cases e : eN A d k = 64
    · rw [if_pos e]
      simp [cn, e]
    · rw [if_neg e]
      simp [cn, e]
      congr 1
      omega
theorem told_eq (h : RA b0 σ A) (hT : okT A) {n w : Nat} (hn : n < 64) (hw : w ≤ 6) (hD : nd A n 0 = 2 → dirOk A n) (hu : 10000 ≤ fu) : m_X12_told b0 fu (b0 + 35) (nI n) (nI w) σ = some (nI (tdA A n w), σ) := by
  have L := h.lay
  have hs : nd A n 1 < 272385 := sz_lt hT hn
  have h94 := nd_le hT (n := n) (w := 94) hn (by omega) (by omega)
  unfold m_X12_told tdA
  rw [ckR_35 L]
  show grw σ (cll (m_X12_node b0 fu (b0 + 35) (nI n) (nI 0) σ) _) = _
  rw [node_nd h hn (by omega), cll_some, ckR_35 L]
  show grw σ (cll (m_X12_node b0 fu (b0 + 35) (nI n) (nI 1) σ) _) = _
  rw [node_nd h hn (by omega), cll_some]
  show grw σ (if nI w = nI 0 then _ else if nI w = nI 1 then (if nI (nd A n 0) = nI 3 then _ else _) else if nI w = nI 2 then _ else if nI w = nI 3 then _ else if nI w = nI 4 then L_X12_told_87 b0 fu fu (b0 + 35) (nI n) (nI (nd A n 1)) (nI 0) (nI 0) σ else if nI w = nI 5 then _ else (if nI (nd A n 0) = nI 2 then L_X12_told_224 b0 fu fu (b0 + 35) (nI n) (nI 0) (nI 0) σ else _)) = _
  rw [if_e (a := w) (b := 0) (by omega) (by omega), if_e (a := w) (b := 1) (by omega) (by omega), if_e (a := w) (b := 2) (by omega) (by omega), if_e (a := w) (b := 3) (by omega) (by omega), if_e (a := w) (b := 4) (by omega) (by omega), if_e (a := w) (b := 5) (by omega) (by omega), if_e (a := nd A n 0) (b := 3) (nd_bd h _ _) (by omega), if_e (a := nd A n 0) (b := 2) (nd_bd h _ _) (by omega)]
  by_cases w0 : w = 0
  · rw [if_pos w0, if_pos w0]
    exact grw_same
  rw [if_neg w0, if_neg w0]
  by_cases w1 : w = 1
  · rw [if_pos w1, if_pos w1]
    unfold J_X12_told_74
    by_cases c : nd A n 0 = 3
    · rw [if_pos c, if_pos c, ckR_35 L]
      show grw σ (cll (m_X12_node b0 fu (b0 + 35) (nI n) (nI 4) σ) _) = _
      rw [node_nd h hn (by omega), cll_some]
      exact grw_same
    · rw [if_neg c, if_neg c]
      exact grw_same
  rw [if_neg w1, if_neg w1]
  by_cases w2 : w = 2
  · rw [if_pos w2, if_pos w2, ckR_35 L]
    show grw σ (cll (m_X12_node b0 fu (b0 + 35) (nI n) (nI 2) σ) _) = _
    rw [node_nd h hn (by omega), cll_some]
    exact grw_same
  rw [if_neg w2, if_neg w2]
  by_cases w3 : w = 3
  · rw [if_pos w3, if_pos w3]
    exact grw_same
  rw [if_neg w3, if_neg w3]
  by_cases w4 : w = 4
  · rw [if_pos w4, if_pos w4, td87 h hT hn hs ((nd A n 1 + 255) / 256) 0 0 fu (by omega) (by omega) (by omega), Nat.zero_add]
    exact grw_same
  rw [if_neg w4, if_neg w4]
  by_cases w5 : w = 5
  · rw [if_pos w5, if_pos w5, ckR_35 L]
    show grw σ (cll (m_X12_node b0 fu (b0 + 35) (nI n) (nI 93) σ) (fun v34 ρ35 => if v34 = nI 0 then J_X12_told_146 b0 fu (b0 + 35) (nI n) (nI 0) ρ35 else J_X12_told_146 b0 fu (b0 + 35) (nI n) (nI 1) ρ35)) = _
    rw [node_nd h hn (by omega), cll_some, if_e (nd_bd h _ _) (by omega)]
    have k146 : ∀ c, c < 2 → J_X12_told_146 b0 fu (b0 + 35) (nI n) (nI c) σ = some (nI (c + (if nd A n 94 = 0 then 0 else cn (fun k => A 36 (6080 + (nd A n 94 - 1) * 274 + (2 + k)) != 0) 0 32 + 1)), σ) := by
      intro c hc
      unfold J_X12_told_146
      rw [ckR_35 L]
      show cll (m_X12_node b0 fu (b0 + 35) (nI n) (nI 94) σ) (fun v40 ρ41 => ltb (v40 - 1) (fun y43 => L_X12_told_162 b0 fu fu (b0 + 35) (nI c) y43 (nI 0) ρ41)) = _
      rw [node_nd h hn (by omega), cll_some, ltb_def]
      by_cases z : nd A n 94 = 0
      · rw [if_pos z, z]
        obtain ⟨f, rfl⟩ : ∃ q, fu = q + 1 := ⟨fu - 1, by omega⟩
        unfold L_X12_told_162 J_X12_told_201 J_X12_told_215
        rw [ltb_def, if_neg (show ¬ (32 : Int32) ≤ nI 0 by decide), if_pos (show nI 0 - 1 < 0 by decide), if_neg (show ¬ (0 : Int32) ≤ nI 0 - 1 by decide)]
        rfl
      · rw [if_neg z, show nI (nd A n 94) - 1 = nI (nd A n 94 - 1) from nI_sb (b := 1) (by omega), td162 h hT (by omega) 32 0 c fu (by omega) (by omega) (by omega), Nat.add_assoc]
    unfold td5
    by_cases z : nd A n 93 = 0
    · rw [if_pos z, if_pos z, k146 0 (by omega)]
      exact grw_same
    · rw [if_neg z, if_neg z, k146 1 (by omega)]
      exact grw_same
  rw [if_neg w5, if_neg w5]
  unfold td6 J_X12_told_262
  by_cases c : nd A n 0 = 2
  · have hDn := hD c
    have ea : eAll A n < 8512 := by have := hDn.2.1; unfold eAll; omega
    rw [if_pos c, if_pos c, td224 h hT hDn (eAll A n) 0 0 fu (by omega) (by omega) (by omega), Nat.zero_add]
    exact grw_same
  · rw [if_neg c, if_neg c]
    exact grw_same
end TD
