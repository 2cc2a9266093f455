/-! ===== PURE: names and parent set, in both ===== -/
section SRAA
variable {bi : Nat → Nat} {w : Nat → Nat × Nat} {C A : tS} {n : Nat}
theorem okT_nd {x v : Nat} (h : okT A) (hn : n < 64) (hx : x < 95) (hv : v < bN x) : okT (setN A n x v) := by
  unfold setN
  refine okT_oth (okT_up h ?_) (by decide)
  unfold bT
  rw [if_pos (by omega), show (n * 95 + x) % 95 = x by omega]
  exact hv
theorem SR_nam {v : Nat} (h : SR bi w C A) (hn : n < 64) (h0 : nd A n 0 ≠ 0) (hv : v < 256) : SR bi w (shC C n (kiC C n) v (prC C n) (szC C n)) (setN A n 2 v) := by
  obtain ⟨a0, a1⟩ := hd_c h.ok h.mr hn
  obtain ⟨a1, a2, a3⟩ := a1 h0
  obtain ⟨r1, r2, r3, r4, r5⟩ := setN_r (A := A) (n := n) (v := v) (x := 2) hn (by omega) (by omega)
  have x0 : nd (setN A n 2 v) n 0 = nd A n 0 := by rw [r4 n 0 (by omega), if_neg (by omega)]
  have x1 : nd (setN A n 2 v) n 1 = nd A n 1 := by rw [r4 n 1 (by omega), if_neg (by omega)]
  have x4 : nd (setN A n 2 v) n 4 = nd A n 4 := by rw [r4 n 4 (by omega), if_neg (by omega)]
  refine SR_hdr h hn r1 r2 r3 h0 (okT_nd h.ok hn (by omega) hv) ?_ ?_ ?_ ?_
  · rw [a0, x0]
  · rw [r4 n 2 (by omega), if_pos ⟨rfl, rfl⟩]
  · rw [a2, r4 n 3 (by omega), if_neg (by omega)]
  · rw [x0, x1, x4, a3]
theorem SR_par {v : Nat} (h : SR bi w C A) (hn : n < 64) (h0 : nd A n 0 ≠ 0) (hv : v < 64) : SR bi w (shC C n (kiC C n) (naC C n) v (szC C n)) (setN A n 3 v) := by
  obtain ⟨a0, a1⟩ := hd_c h.ok h.mr hn
  obtain ⟨a1, a2, a3⟩ := a1 h0
  obtain ⟨r1, r2, r3, r4, r5⟩ := setN_r (A := A) (n := n) (v := v) (x := 3) hn (by omega) (by omega)
  have x0 : nd (setN A n 3 v) n 0 = nd A n 0 := by rw [r4 n 0 (by omega), if_neg (by omega)]
  have x1 : nd (setN A n 3 v) n 1 = nd A n 1 := by rw [r4 n 1 (by omega), if_neg (by omega)]
  have x4 : nd (setN A n 3 v) n 4 = nd A n 4 := by rw [r4 n 4 (by omega), if_neg (by omega)]
  refine SR_hdr h hn r1 r2 r3 h0 (okT_nd h.ok hn (by omega) hv) ?_ ?_ ?_ ?_
  · rw [a0, x0]
  · rw [a1, r4 n 2 (by omega), if_neg (by omega)]
  · rw [r4 n 3 (by omega), if_pos ⟨rfl, rfl⟩]
  · rw [x0, x1, x4, a3]
end SRAA
