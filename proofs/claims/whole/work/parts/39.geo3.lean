theorem inB_ov {a b c d : Int} (h : inB a b c ∨ inB a b d ∨ inB c d a ∨ inB c d b) : ov a b c d := by unfold inB at h; unfold ov; omega
theorem ov_inB {a b c d : Int} (h : ov a b c d) : inB a b c ∨ inB a b d ∨ inB c d a ∨ inB c d b := by unfold ov at h; unfold inB; omega
theorem col1 {ax ay bx by' cx cy : Int} (h : cr ax ay bx by' cx cy = 0) (hx : ax ≠ bx) (hi : inB ax bx cx) : inB ay by' cy := by
  have hw := cr_w h
  rw [inB_mul] at hi ⊢
  have hu : ax - cx ≠ bx - cx := by omega
  generalize ax - cx = ux at *
  generalize bx - cx = vx at *
  generalize ay - cy = uy at *
  generalize by' - cy = vy at *
  have e2 : (ux * vy) * (ux * vy) = (ux * vx) * (uy * vy) := by grind
  have s := sq_nn (ux * vy)
  by_cases h0 : ux * vx = 0
  · rcases Int.mul_eq_zero.mp h0 with z | z
    · subst z
      have : uy * vx = 0 := by rw [← hw, Int.zero_mul]
      have : uy = 0 := (Int.mul_eq_zero.mp this).resolve_right (fun q => hu q.symm)
      subst this; simp
    · subst z
      have : ux * vy = 0 := by rw [hw, Int.mul_zero]
      have : vy = 0 := (Int.mul_eq_zero.mp this).resolve_left hu
      subst this; simp
  · rcases Int.lt_or_le 0 (uy * vy) with q | q
    · have := Int.mul_neg_of_neg_of_pos (show ux * vx < 0 by omega) q
      omega
    · exact q
theorem geo_col1 {ax ay bx by' cx cy dx dy : Int} (h1 : cr ax ay bx by' cx cy = 0) (h2 : cr ax ay bx by' dx dy = 0) (h3 : cr cx cy dx dy ax ay = 0) (h4 : cr cx cy dx dy bx by' = 0) (hx : ax ≠ bx) (hCD : cx ≠ dx ∨ cy ≠ dy) (ho : ov ax bx cx dx) : (inB ax bx cx ∧ inB ay by' cy) ∨ (inB ax bx dx ∧ inB ay by' dy) ∨ (inB cx dx ax ∧ inB cy dy ay) ∨ (inB cx dx bx ∧ inB cy dy by') := by
  have hc : cx ≠ dx := by
    intro e
    subst e
    have z : (bx - ax) * (cy - dy) = 0 := by unfold cr at h1 h2; grind
    rcases Int.mul_eq_zero.mp z with q | q <;> omega
  rcases ov_inB ho with q | q | q | q
  · exact Or.inl ⟨q, col1 h1 hx q⟩
  · exact Or.inr (Or.inl ⟨q, col1 h2 hx q⟩)
  · exact Or.inr (Or.inr (Or.inl ⟨q, col1 h3 hc q⟩))
  · exact Or.inr (Or.inr (Or.inr ⟨q, col1 h4 hc q⟩))
theorem cr_flip {ax ay bx by' cx cy : Int} (h : cr ax ay bx by' cx cy = 0) : cr ay ax by' bx cy cx = 0 := by unfold cr at *; omega
theorem geo_col {ax ay bx by' cx cy dx dy : Int} (h1 : cr ax ay bx by' cx cy = 0) (h2 : cr ax ay bx by' dx dy = 0) (h3 : cr cx cy dx dy ax ay = 0) (h4 : cr cx cy dx dy bx by' = 0) (hAB : ax ≠ bx ∨ ay ≠ by') (hCD : cx ≠ dx ∨ cy ≠ dy) (ho : ov ax bx cx dx) (ho' : ov ay by' cy dy) : (inB ax bx cx ∧ inB ay by' cy) ∨ (inB ax bx dx ∧ inB ay by' dy) ∨ (inB cx dx ax ∧ inB cy dy ay) ∨ (inB cx dx bx ∧ inB cy dy by') := by
  rcases hAB with q | q
  · exact geo_col1 h1 h2 h3 h4 q hCD ho
  · rcases geo_col1 (cr_flip h1) (cr_flip h2) (cr_flip h3) (cr_flip h4) q hCD.symm ho' with w | w | w | w
    · exact Or.inl w.symm
    · exact Or.inr (Or.inl w.symm)
    · exact Or.inr (Or.inr (Or.inl w.symm))
    · exact Or.inr (Or.inr (Or.inr w.symm))
theorem meet_iff {ax ay bx by' cx cy dx dy r1 r2 r3 r4 : Int} (e1 : cr ax ay bx by' cx cy = r1) (e2 : cr ax ay bx by' dx dy = r2) (e3 : cr cx cy dx dy ax ay = r3) (e4 : cr cx cy dx dy bx by' = r4) (hAB : ax ≠ bx ∨ ay ≠ by') (hCD : cx ≠ dx ∨ cy ≠ dy) : (ov ax bx cx dx ∧ ov ay by' cy dy ∧ r1 * r2 ≤ 0 ∧ r3 * r4 ≤ 0) ↔ ((r1 = 0 ∧ inB ax bx cx ∧ inB ay by' cy) ∨ (r2 = 0 ∧ inB ax bx dx ∧ inB ay by' dy) ∨ (r3 = 0 ∧ inB cx dx ax ∧ inB cy dy ay) ∨ (r4 = 0 ∧ inB cx dx bx ∧ inB cy dy by') ∨ (r1 * r2 < 0 ∧ r3 * r4 < 0)) := by
  have s1 : cr bx by' ax ay cx cy = -r1 := by rw [cr_swap, e1]
  have s2 : cr bx by' ax ay dx dy = -r2 := by rw [cr_swap, e2]
  have s3 : cr dx dy cx cy ax ay = -r3 := by rw [cr_swap, e3]
  have s4 : cr dx dy cx cy bx by' = -r4 := by rw [cr_swap, e4]
  have hs := cr_sum ax ay bx by' cx cy dx dy
  rw [e1, e2, e3, e4] at hs
  constructor
  · rintro ⟨o1, o2, p1, p2⟩
    by_cases hC : r1 = 0 ∧ inB ax bx cx ∧ inB ay by' cy
    · exact Or.inl hC
    by_cases hD : r2 = 0 ∧ inB ax bx dx ∧ inB ay by' dy
    · exact Or.inr (Or.inl hD)
    by_cases hA : r3 = 0 ∧ inB cx dx ax ∧ inB cy dy ay
    · exact Or.inr (Or.inr (Or.inl hA))
    by_cases hB : r4 = 0 ∧ inB cx dx bx ∧ inB cy dy by'
    · exact Or.inr (Or.inr (Or.inr (Or.inl hB)))
    refine Or.inr (Or.inr (Or.inr (Or.inr ?_)))
    have key : (r1 = 0 ∨ r2 = 0 ∨ r3 = 0 ∨ r4 = 0) → False := by
      intro hz
      have all0 : r1 = 0 ∧ r2 = 0 ∧ r3 = 0 ∧ r4 = 0 := by
        rcases hz with z | z | z | z
        · obtain ⟨a, b, c⟩ := geo_Z (dx := dx) (dy := dy) (e1.trans z) (fun w => hC ⟨z, w⟩) (by rw [e3, e4]; exact p2)
          omega
        · obtain ⟨a, b, c⟩ := geo_Z (dx := cx) (dy := cy) (e2.trans z) (fun w => hD ⟨z, w⟩) (by rw [s3, s4, Int.neg_mul_neg]; exact p2)
          omega
        · obtain ⟨a, b, c⟩ := geo_Z (dx := bx) (dy := by') (e3.trans z) (fun w => hA ⟨z, w⟩) (by rw [e1, e2]; exact p1)
          omega
        · obtain ⟨a, b, c⟩ := geo_Z (dx := ax) (dy := ay) (e4.trans z) (fun w => hB ⟨z, w⟩) (by rw [s1, s2, Int.neg_mul_neg]; exact p1)
          omega
      obtain ⟨z1, z2, z3, z4⟩ := all0
      rcases geo_col (e1.trans z1) (e2.trans z2) (e3.trans z3) (e4.trans z4) hAB hCD o1 o2 with w | w | w | w
      · exact hC ⟨z1, w⟩
      · exact hD ⟨z2, w⟩
      · exact hA ⟨z3, w⟩
      · exact hB ⟨z4, w⟩
    constructor
    · rcases Int.lt_or_eq_of_le p1 with q | q
      · exact q
      · rcases Int.mul_eq_zero.mp q with z | z
        · exact (key (Or.inl z)).elim
        · exact (key (Or.inr (Or.inl z))).elim
    · rcases Int.lt_or_eq_of_le p2 with q | q
      · exact q
      · rcases Int.mul_eq_zero.mp q with z | z
        · exact (key (Or.inr (Or.inr (Or.inl z)))).elim
        · exact (key (Or.inr (Or.inr (Or.inr z)))).elim
  · rintro (⟨z, i1, i2⟩ | ⟨z, i1, i2⟩ | ⟨z, i1, i2⟩ | ⟨z, i1, i2⟩ | ⟨q1, q2⟩)
    · have g := geo_in dx dy (e1.trans z) i1 i2
      rw [e3, e4] at g
      exact ⟨inB_ov (Or.inl i1), inB_ov (Or.inl i2), by rw [z, Int.zero_mul]; omega, g⟩
    · have g := geo_in cx cy (e2.trans z) i1 i2
      rw [s3, s4, Int.neg_mul_neg] at g
      exact ⟨inB_ov (Or.inr (Or.inl i1)), inB_ov (Or.inr (Or.inl i2)), by rw [z, Int.mul_zero]; omega, g⟩
    · have g := geo_in bx by' (e3.trans z) i1 i2
      rw [e1, e2] at g
      exact ⟨inB_ov (Or.inr (Or.inr (Or.inl i1))), inB_ov (Or.inr (Or.inr (Or.inl i2))), g, by rw [z, Int.zero_mul]; omega⟩
    · have g := geo_in ax ay (e4.trans z) i1 i2
      rw [s1, s2, Int.neg_mul_neg] at g
      exact ⟨inB_ov (Or.inr (Or.inr (Or.inr i1))), inB_ov (Or.inr (Or.inr (Or.inr i2))), g, by rw [z, Int.mul_zero]; omega⟩
    · have ix : r3 * bx - r4 * ax = r2 * cx - r1 * dx := by rw [← e1, ← e2, ← e3, ← e4]; unfold cr; grind
      have iy : r3 * by' - r4 * ay = r2 * cy - r1 * dy := by rw [← e1, ← e2, ← e3, ← e4]; unfold cr; grind
      exact ⟨ov_all ix (by omega) q1 q2, ov_all iy (by omega) q1 q2, by omega, by omega⟩
