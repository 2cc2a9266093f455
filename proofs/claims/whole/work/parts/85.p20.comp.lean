/-! ===== PURE: the names of a path ===== -/
def seg (tx : Nat → Nat) : Nat → Nat → List Nat
  | _, 0 => []
  | a, m + 1 => tx a :: seg tx (a + 1) m
/-- names between slashes, behind what is read of a name -/
def cps : List Nat → List Nat → List (List Nat)
  | cur, [] => if cur = [] then [] else [cur]
  | cur, c :: r => if c = 47 then (if cur = [] then cps [] r else cur :: cps [] r) else cps (cur ++ [c]) r
theorem seg_len (tx : Nat → Nat) : ∀ m a, (seg tx a m).length = m
  | 0, _ => rfl
  | m + 1, a => by simp [seg, seg_len tx m (a + 1)]
theorem seg_get (tx : Nat → Nat) : ∀ m a i, i < m → (seg tx a m).getD i 0 = tx (a + i)
  | 0, _, _, h => by omega
  | m + 1, a, 0, _ => by simp [seg]
  | m + 1, a, i + 1, h => by
    have := seg_get tx m (a + 1) i (by omega)
    simp [seg] at this ⊢
    rw [this]
    congr 1
    omega
theorem seg_cong {tx ty : Nat → Nat} : ∀ m a b, (∀ i, i < m → tx (a + i) = ty (b + i)) → seg tx a m = seg ty b m
  | 0, _, _, _ => rfl
  | m + 1, a, b, h => by
    unfold seg
    rw [seg_cong m (a + 1) (b + 1) (fun i hi => by have := h (i + 1) (by omega); rwa [show a + (i + 1) = a + 1 + i by omega, show b + (i + 1) = b + 1 + i by omega] at this)]
    have := h 0 (by omega)
    rw [show tx a = ty b from this]
theorem seg_app (tx : Nat → Nat) : ∀ m k a, seg tx a (m + k) = seg tx a m ++ seg tx (a + m) k
  | 0, k, a => by simp [seg]
  | m + 1, k, a => by
    rw [show m + 1 + k = (m + k) + 1 by omega]
    simp only [seg]
    rw [seg_app tx m k (a + 1), show a + 1 + m = a + (m + 1) by omega]
    rfl
theorem cps_sl (tx : Nat → Nat) : ∀ m a, cps [] (seg tx a m) = cps [] (seg tx (sr (fun i => tx i != 47) a m) (a + m - sr (fun i => tx i != 47) a m))
  | 0, a => by simp [sr, seg]
  | m + 1, a => by
    by_cases e : tx a = 47
    · have : sr (fun i => tx i != 47) a (m + 1) = sr (fun i => tx i != 47) (a + 1) m := by simp [sr, e]
      rw [this]
      have h := cps_sl tx m (a + 1)
      rw [show a + 1 + m = a + (m + 1) by omega] at h
      rw [← h]
      simp [seg, cps, e]
    · have : sr (fun i => tx i != 47) a (m + 1) = a := by simp [sr, e]
      rw [this, show a + (m + 1) - a = m + 1 by omega]
theorem cps_nm (tx : Nat → Nat) : ∀ m a cur, cur ≠ [] → cps cur (seg tx a m) = (cur ++ seg tx a (sr (fun i => tx i == 47) a m - a)) :: cps [] (seg tx (sr (fun i => tx i == 47) a m) (a + m - sr (fun i => tx i == 47) a m))
  | 0, a, cur, h => by simp [sr, seg, cps, h]
  | m + 1, a, cur, h => by
    by_cases e : tx a = 47
    · have : sr (fun i => tx i == 47) a (m + 1) = a := by simp [sr, e]
      rw [this, show a + (m + 1) - a = m + 1 by omega, Nat.sub_self]
      simp [seg, cps, e, h]
    · have : sr (fun i => tx i == 47) a (m + 1) = sr (fun i => tx i == 47) (a + 1) m := by simp [sr, e]
      rw [this]
      have h1 := (sr_le (fun i => tx i == 47) m (a + 1)).1
      have ih := cps_nm tx m (a + 1) (cur ++ [tx a]) (by simp)
      rw [show a + 1 + m = a + (m + 1) by omega] at ih
      have e2 : seg tx a (sr (fun i => tx i == 47) (a + 1) m - a) = tx a :: seg tx (a + 1) (sr (fun i => tx i == 47) (a + 1) m - (a + 1)) := by
        rw [show sr (fun i => tx i == 47) (a + 1) m - a = (sr (fun i => tx i == 47) (a + 1) m - (a + 1)) + 1 by omega]
        rfl
      rw [e2]
      have e3 : cps cur (seg tx a (m + 1)) = cps (cur ++ [tx a]) (seg tx (a + 1) m) := by simp [seg, cps, e]
      rw [e3, ih]
      simp
/-- the first name, and the rest -/
theorem cps_hd {tx : Nat → Nat} {m a : Nat} (hm : 0 < m) (h : tx a ≠ 47) : cps [] (seg tx a m) = seg tx a (sr (fun i => tx i == 47) a m - a) :: cps [] (seg tx (sr (fun i => tx i == 47) a m) (a + m - sr (fun i => tx i == 47) a m)) := by
  obtain ⟨m, rfl⟩ : ∃ q, m = q + 1 := ⟨m - 1, by omega⟩
  have : sr (fun i => tx i == 47) a (m + 1) = sr (fun i => tx i == 47) (a + 1) m := by simp [sr, h]
  have h1 := (sr_le (fun i => tx i == 47) m (a + 1)).1
  have ih := cps_nm tx m (a + 1) [tx a] (by simp)
  rw [show a + 1 + m = a + (m + 1) by omega] at ih
  rw [this, show sr (fun i => tx i == 47) (a + 1) m - a = (sr (fun i => tx i == 47) (a + 1) m - (a + 1)) + 1 by omega]
  have e3 : cps [] (seg tx a (m + 1)) = cps [tx a] (seg tx (a + 1) m) := by simp [seg, cps, h]
  rw [e3, ih]
  rfl
theorem cps_ap : ∀ l1 cur l2, cps cur (l1 ++ 47 :: l2) = cps cur l1 ++ cps [] l2
  | [], cur, l2 => by by_cases h : cur = [] <;> simp [cps, h]
  | c :: l1, cur, l2 => by
    have i1 := cps_ap l1 [] l2
    have i2 := cps_ap l1 (cur ++ [c]) l2
    by_cases e : c = 47
    · by_cases h : cur = [] <;> simp [cps, e, h, i1]
    · simp [cps, e, i2]
theorem cps_len : ∀ l cur, 2 * (cps cur l).length ≤ l.length + (if cur = [] then 1 else 2)
  | [], cur => by by_cases h : cur = [] <;> simp [cps, h]
  | c :: l, cur => by
    have i1 := cps_len l []
    have i2 := cps_len l (cur ++ [c])
    simp at i1 i2
    by_cases e : c = 47
    · by_cases h : cur = [] <;> simp [cps, e, h] <;> omega
    · simp [cps, e]
      split <;> omega
def tl (A : Nat → Nat → Nat) (g : Nat) : List Nat := seg (fun i => nd A g (5 + i)) 0 (nd A g 4)
def ab (l : List Nat) : Bool := match l with | [] => true | c :: _ => c == 47
/-- a walk: the node that names lead to, or why there is none -/
def wk (A : Nat → Nat → Nat) (fo : Bool) : Nat → Nat → Nat → List (List Nat) → Int
  | 0, _, _, _ => -8
  | _ + 1, d, _, [] => d
  | w + 1, d, lk, c :: cs =>
    if nd A d 0 ≠ 2 then -3
    else if 28 < c.length then -7
    else if c = [46] then wk A fo w d lk cs
    else if c = [46, 46] then wk A fo w (nd A d 3) lk cs
    else if eAll A d ≤ fA A d (fun i => c.getD i 0) c.length then -1
    else if nd A (eN A d (fA A d (fun i => c.getD i 0) c.length)) 0 = 3 ∧ (cs ≠ [] ∨ fo = true) then
      (if lk = 8 then -8 else wk A fo w (if ab (tl A (eN A d (fA A d (fun i => c.getD i 0) c.length))) then 0 else d) (lk + 1) (cps [] (tl A (eN A d (fA A d (fun i => c.getD i 0) c.length))) ++ cs))
    else wk A fo w (eN A d (fA A d (fun i => c.getD i 0) c.length)) lk cs
theorem fP_cong {A : Nat → Nat → Nat} {d n k : Nat} {nm nm' : Nat → Nat} (h : ∀ i, i < n → nm i = nm' i) : fP A d nm n k = fP A d nm' n k := by
  have : ∀ m i, i + m = n → sr (fun i => eC A d k i != nm i) i m = sr (fun i => eC A d k i != nm' i) i m := by
    intro m
    induction m with
    | zero => intro i _; rfl
    | succ m ih =>
      intro i hi
      unfold sr
      rw [h i (by omega), ih (i + 1) (by omega)]
  unfold fP
  rw [this n 0 (by omega)]
theorem fA_cong {A : Nat → Nat → Nat} {d n : Nat} {nm nm' : Nat → Nat} (h : ∀ i, i < n → nm i = nm' i) : fA A d nm n = fA A d nm' n := by
  unfold fA
  rw [show fP A d nm n = fP A d nm' n from funext fun k => fP_cong h]
