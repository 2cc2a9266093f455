/-! ===== PURE: the reference's public methods: rename ===== -/
def lk0 (A : tS) (e : Nat) : Int := if lkA A e then -6 else 0
/-- may node n come into directory e: in no one's place -/
def mrN (A : tS) (n e : Nat) : Int := if nd A n 0 = 2 then (if bwA A n 64 e then -9 else lk0 A e) else lk0 A e
/-- may node n come into directory e: in the place of node t -/
def mrS (A : tS) (n e t : Nat) : Int :=
  if nd A n 0 = 2 then (if bwA A n 64 e then -9 else if nd A t 0 = 2 then (if 0 < nd A t 1 then -5 else 0) else -3)
  else if nd A t 0 = 2 then -4 else 0
section RN
variable {b0 fu : Nat} {σ τ : tM} {A B U : tS} {N N' K K' : Nat} {J : tJ}
theorem mr80n {e : Nat} (h : RA b0 σ A) (hT : okT A) (hD : dirOk A e) (hr : A 35 7 ≤ 2000) (hu : 10000 ≤ fu) : J_X12_mayRename_80 b0 fu (b0 + 35) (nI e) (-1) σ = some (iz (lk0 A e), σ) := by
  have L := h.lay
  unfold J_X12_mayRename_80 J_X12_mayRename_97 J_X12_mayRename_98 lk0
  rw [if_neg (show ¬ (0 : Int32) ≤ -1 by decide), ckR_35 L, lacks_eq h hT hD hr hu, cll_some]
  cases lkA A e with
  | true => rfl
  | false => rfl
theorem mayRename_n {n e : Nat} (h : RA b0 σ A) (hT : okT A) (hn : n < 64) (hD : dirOk A e) (hr : A 35 7 ≤ 2000) (hu : 10000 ≤ fu) (hb : nd A n 0 = 2 → bwOk A n 64 e) : m_X12_mayRename b0 fu (b0 + 35) (nI n) (nI e) (-1) σ = some (iz (mrN A n e), σ) := by
  have L := h.lay
  unfold m_X12_mayRename J_X12_mayRename_18 J_X12_mayRename_19 J_X12_mayRename_55 mrN
  rw [if_pos (show (-1 : Int32) < 0 by decide), ckR_35 L]
  show grw σ (cll (m_X12_node b0 fu (b0 + 35) (nI n) (nI 0) σ) (fun v4 ρ5 => if v4 = nI 2 then _ else _)) = _
  rw [node_nd h hn (by omega), cll_some, if_e (nd_bd h _ _) (by omega)]
  by_cases c : nd A n 0 = 2
  · rw [if_pos c, if_pos c, ckR_35 L, isBelow_eq h hT hn hD.1 (by omega) (hb c), cll_some]
    cases bwA A n 64 e with
    | true =>
      rw [if_neg (show ¬ nI (b2n true) = 0 by decide), if_pos rfl]
      exact grw_same
    | false =>
      rw [if_pos (show nI (b2n false) = 0 by decide), if_pos (show (-1 : Int32) < 0 by decide), if_pos rfl, if_neg (show ¬ false = true by decide), mr80n h hT hD hr hu]
      exact grw_same
  · rw [if_neg c, if_neg c, if_pos rfl, mr80n h hT hD hr hu]
    exact grw_same
theorem mr80s {t e : Nat} (ht : t < 64) : J_X12_mayRename_80 b0 fu (b0 + 35) (nI e) (nI t) σ = some (iz 0, σ) := by
  unfold J_X12_mayRename_80 J_X12_mayRename_97 J_X12_mayRename_98
  rw [if_pos (Int32.not_lt.mp (nI_pos (by omega)))]
  rfl
theorem mayRename_s {n e t : Nat} (h : RA b0 σ A) (hT : okT A) (hn : n < 64) (ht : t < 64) (he : e < 64) (hu : 10000 ≤ fu) (hb : nd A n 0 = 2 → bwOk A n 64 e) : m_X12_mayRename b0 fu (b0 + 35) (nI n) (nI e) (nI t) σ = some (iz (mrS A n e t), σ) := by
  have L := h.lay
  have k19 : ∀ s0 : Nat, s0 = (if nd A t 0 = 2 then 1 else 0) → J_X12_mayRename_19 b0 fu (b0 + 35) (nI n) (nI e) (nI t) (nI s0) σ = some (iz (mrS A n e t), σ) := by
    intro s0 hs
    unfold J_X12_mayRename_19 J_X12_mayRename_55 mrS
    rw [ckR_35 L]
    show cll (m_X12_node b0 fu (b0 + 35) (nI n) (nI 0) σ) (fun v4 ρ5 => if v4 = nI 2 then _ else _) = _
    rw [node_nd h hn (by omega), cll_some, if_e (nd_bd h _ _) (by omega)]
    by_cases c2 : nd A t 0 = 2
    · rw [if_pos c2] at hs
      subst hs
      by_cases c : nd A n 0 = 2
      · rw [if_pos c, if_pos c, ckR_35 L, isBelow_eq h hT hn he (by omega) (hb c), cll_some]
        cases bwA A n 64 e with
        | true =>
          rw [if_neg (show ¬ nI (b2n true) = 0 by decide), if_pos rfl]
          rfl
        | false =>
          rw [if_pos (show nI (b2n false) = 0 by decide), if_neg (nI_pos (by omega)), if_neg (show ¬ nI 1 = 0 by decide), if_neg (show ¬ nI 1 = 0 by decide), if_neg (show ¬ false = true by decide), if_pos c2, ckR_35 L]
          show cll (m_X12_node b0 fu (b0 + 35) (nI t) (nI 1) σ) (fun v4 ρ5 => if v4 ≤ nI 0 then _ else _) = _
          rw [node_nd h ht (by omega), cll_some, if_l (nd_bd h _ _) (by omega)]
          by_cases c3 : 0 < nd A t 1
          · rw [if_neg (show ¬ nd A t 1 ≤ 0 by omega), if_pos c3]
            rfl
          · rw [if_pos (show nd A t 1 ≤ 0 by omega), if_neg c3, mr80s ht]
      · rw [if_neg c, if_neg c, if_neg (show ¬ nI 1 = 0 by decide), if_pos c2]
        rfl
    · rw [if_neg c2] at hs
      subst hs
      by_cases c : nd A n 0 = 2
      · rw [if_pos c, if_pos c, ckR_35 L, isBelow_eq h hT hn he (by omega) (hb c), cll_some]
        cases bwA A n 64 e with
        | true =>
          rw [if_neg (show ¬ nI (b2n true) = 0 by decide), if_pos rfl]
          rfl
        | false =>
          rw [if_pos (show nI (b2n false) = 0 by decide), if_neg (nI_pos (by omega)), if_pos (show nI 0 = 0 by decide), if_neg (show ¬ false = true by decide), if_neg c2]
          rfl
      · rw [if_neg c, if_neg c, if_pos (show nI 0 = 0 by decide), if_neg c2, mr80s ht]
  unfold m_X12_mayRename J_X12_mayRename_18
  rw [if_neg (nI_pos (by omega)), ckR_35 L]
  show grw σ (cll (m_X12_node b0 fu (b0 + 35) (nI t) (nI 0) σ) (fun v4 ρ5 => if v4 = nI 2 then J_X12_mayRename_19 b0 fu (b0 + 35) (nI n) (nI e) (nI t) (nI 1) ρ5 else J_X12_mayRename_19 b0 fu (b0 + 35) (nI n) (nI e) (nI t) (nI 0) ρ5)) = _
  rw [node_nd h ht (by omega), cll_some, if_e (nd_bd h _ _) (by omega)]
  by_cases c2 : nd A t 0 = 2
  · rw [if_pos c2, k19 1 (by rw [if_pos c2])]
    exact grw_same
  · rw [if_neg c2, k19 0 (by rw [if_neg c2])]
    exact grw_same
end RN
