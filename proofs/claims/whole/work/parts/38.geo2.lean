/-- which side of PQ the point S is on -/
def cr (px py qx qy sx sy : Int) : Int := (qx - px) * (sy - py) - (qy - py) * (sx - px)
theorem cr_swap (ax ay bx by' cx cy : Int) : cr bx by' ax ay cx cy = - cr ax ay bx by' cx cy := by unfold cr; grind
theorem cr_sum (ax ay bx by' cx cy dx dy : Int) : cr ax ay bx by' cx cy + cr cx cy dx dy ax ay = cr ax ay bx by' dx dy + cr cx cy dx dy bx by' := by unfold cr; grind
theorem cr_w {ax ay bx by' cx cy : Int} (h : cr ax ay bx by' cx cy = 0) : (ax - cx) * (by' - cy) = (ay - cy) * (bx - cx) := by unfold cr at h; grind
theorem geo_Z {ax ay bx by' cx cy dx dy : Int} (h1 : cr ax ay bx by' cx cy = 0) (hn : ¬ (inB ax bx cx ∧ inB ay by' cy)) (h2 : cr cx cy dx dy ax ay * cr cx cy dx dy bx by' ≤ 0) : cr cx cy dx dy ax ay = 0 ∧ cr cx cy dx dy bx by' = 0 ∧ cr ax ay bx by' dx dy = 0 := by
  have hw := cr_w h1
  have hs := cr_sum ax ay bx by' cx cy dx dy
  rw [inB_mul, inB_mul] at hn
  obtain ⟨z1, z2⟩ := geo_same (dx := dx - cx) (dy := dy - cy) hw (by omega) h2
  have z1' : cr cx cy dx dy ax ay = 0 := z1
  have z2' : cr cx cy dx dy bx by' = 0 := z2
  exact ⟨z1', z2', by omega⟩
theorem geo_in {ax ay bx by' cx cy : Int} (dx dy : Int) (h1 : cr ax ay bx by' cx cy = 0) (h2 : inB ax bx cx) (h3 : inB ay by' cy) : cr cx cy dx dy ax ay * cr cx cy dx dy bx by' ≤ 0 := geo_opp (dx - cx) (dy - cy) (cr_w h1) (inB_mul.mp h2) (inB_mul.mp h3)
def ov (a b c d : Int) : Prop := ¬ max a b < min c d ∧ ¬ max c d < min a b
theorem ov_half {a b c d r1 r2 r3 r4 : Int} (id : r3 * b - r4 * a = r2 * c - r1 * d) (s : r3 - r4 = r2 - r1) (h3 : 0 < r3) (h4 : r4 < 0) (h1 : r1 < 0) (h2 : 0 < r2) : ov a b c d := by
  constructor
  · intro h
    have t1 := Int.mul_pos h3 (show 0 < min c d - b by omega)
    have t2 := Int.mul_pos (show 0 < -r4 by omega) (show 0 < min c d - a by omega)
    have t3 := Int.mul_nonneg (Int.le_of_lt h2) (show 0 ≤ c - min c d by omega)
    have t4 := Int.mul_nonneg (show 0 ≤ -r1 by omega) (show 0 ≤ d - min c d by omega)
    generalize min c d = m at *
    have : r3 * (m - b) + -r4 * (m - a) + r2 * (c - m) + -r1 * (d - m) = 0 := by grind
    omega
  · intro h
    have t1 := Int.mul_nonneg (Int.le_of_lt h3) (show 0 ≤ b - min a b by omega)
    have t2 := Int.mul_nonneg (show 0 ≤ -r4 by omega) (show 0 ≤ a - min a b by omega)
    have t3 := Int.mul_pos h2 (show 0 < min a b - c by omega)
    have t4 := Int.mul_pos (show 0 < -r1 by omega) (show 0 < min a b - d by omega)
    generalize min a b = m at *
    have : r3 * (b - m) + -r4 * (a - m) + r2 * (m - c) + -r1 * (m - d) = 0 := by grind
    omega
theorem neg_cases {a b : Int} (h : a * b < 0) : (a < 0 ∧ 0 < b) ∨ (0 < a ∧ b < 0) := by
  rcases Int.lt_trichotomy a 0 with q | q | q
  · rcases Int.lt_or_le 0 b with w | w
    · exact Or.inl ⟨q, w⟩
    · have := Int.mul_nonneg_of_nonpos_of_nonpos (Int.le_of_lt q) w; omega
  · subst q; simp at h
  · rcases Int.lt_or_le b 0 with w | w
    · exact Or.inr ⟨q, w⟩
    · have := Int.mul_nonneg (Int.le_of_lt q) w; omega
theorem ov_all {a b c d r1 r2 r3 r4 : Int} (id : r3 * b - r4 * a = r2 * c - r1 * d) (s : r3 - r4 = r2 - r1) (h1 : r1 * r2 < 0) (h3 : r3 * r4 < 0) : ov a b c d := by
  rcases neg_cases h1 with ⟨p1, p2⟩ | ⟨p1, p2⟩
  · rcases neg_cases h3 with ⟨p3, p4⟩ | ⟨p3, p4⟩
    · omega
    · exact ov_half id s p3 p4 p1 p2
  · rcases neg_cases h3 with ⟨p3, p4⟩ | ⟨p3, p4⟩
    · exact ov_half (r1 := -r1) (r2 := -r2) (r3 := -r3) (r4 := -r4) (by grind) (by omega) (by omega) (by omega) (by omega) (by omega)
    · omega
