/-! PURE: where two threads meet -/
theorem sq_nn (a : Int) : 0 ≤ a * a := by
  rcases Int.le_total 0 a with h | h
  · exact Int.mul_nonneg h h
  · exact Int.mul_nonneg_of_nonpos_of_nonpos h h
theorem sq_0 {a : Int} (h : a * a = 0) : a = 0 := by
  rcases Int.mul_eq_zero.mp h with h | h <;> exact h
theorem geo_id (ux uy vx vy dx dy : Int) (hw : ux * vy = uy * vx) : (uy * vy) * ((dx * uy - dy * ux) * (dx * vy - dy * vx)) = (uy * vy * dx - ux * vy * dy) * (uy * vy * dx - ux * vy * dy) := by
  grind
theorem geo_opp {ux uy vx vy : Int} (dx dy : Int) (hw : ux * vy = uy * vx) (hQ : ux * vx ≤ 0) (hP : uy * vy ≤ 0) : (dx * uy - dy * ux) * (dx * vy - dy * vx) ≤ 0 := by
  have e := geo_id ux uy vx vy dx dy hw
  have s := sq_nn (uy * vy * dx - ux * vy * dy)
  have e2 : (ux * vy) * (ux * vy) = (uy * vy) * (ux * vx) := by grind
  by_cases h0 : uy * vy = 0
  · have hw0 : ux * vy = 0 := sq_0 (by rw [e2, h0, Int.zero_mul])
    have e3 : (dx * uy - dy * ux) * (dx * vy - dy * vx) = (dy * dy) * (ux * vx) := by grind
    rw [e3]
    exact Int.mul_nonpos_of_nonneg_of_nonpos (sq_nn dy) hQ
  · rcases Int.lt_or_le 0 ((dx * uy - dy * ux) * (dx * vy - dy * vx)) with h | h
    · have hP' : uy * vy < 0 := by omega
      have := Int.mul_neg_of_neg_of_pos hP' h
      omega
    · exact h
theorem geo_same1 {ux uy vx vy dx dy : Int} (hw : ux * vy = uy * vx) (h : 0 < ux * vx) (hE : (dx * uy - dy * ux) * (dx * vy - dy * vx) ≤ 0) : dx * uy - dy * ux = 0 ∧ dx * vy - dy * vx = 0 := by
  have e : (ux * vx) * ((dx * uy - dy * ux) * (dx * vy - dy * vx)) = (ux * vx * dy - uy * vx * dx) * (ux * vx * dy - uy * vx * dx) := by grind
  have s := sq_nn (ux * vx * dy - uy * vx * dx)
  have e0 : (dx * uy - dy * ux) * (dx * vy - dy * vx) = 0 := by
    rcases Int.lt_or_le ((dx * uy - dy * ux) * (dx * vy - dy * vx)) 0 with q | q
    · have := Int.mul_neg_of_pos_of_neg h q
      omega
    · omega
  rw [e0, Int.mul_zero] at e
  have z := sq_0 e.symm
  have nv : vx ≠ 0 := by rintro rfl; simp at h
  have nu : ux ≠ 0 := by rintro rfl; simp at h
  have z1 : vx * (dx * uy - dy * ux) = 0 := by grind
  have z2 : ux * (dx * vy - dy * vx) = 0 := by grind
  exact ⟨(Int.mul_eq_zero.mp z1).resolve_left nv, (Int.mul_eq_zero.mp z2).resolve_left nu⟩
theorem geo_same {ux uy vx vy dx dy : Int} (hw : ux * vy = uy * vx) (h : 0 < ux * vx ∨ 0 < uy * vy) (hE : (dx * uy - dy * ux) * (dx * vy - dy * vx) ≤ 0) : dx * uy - dy * ux = 0 ∧ dx * vy - dy * vx = 0 := by
  rcases h with h | h
  · exact geo_same1 hw h hE
  · have := geo_same1 (ux := uy) (uy := ux) (vx := vy) (vy := vx) (dx := dy) (dy := dx) hw.symm h (by
      have : (dy * ux - dx * uy) * (dy * vx - dx * vy) = (dx * uy - dy * ux) * (dx * vy - dy * vx) := by grind
      rw [this]; exact hE)
    omega
def inB (a b c : Int) : Prop := (a ≤ c ∧ c ≤ b) ∨ (b ≤ c ∧ c ≤ a)
theorem inB_mul {a b c : Int} : inB a b c ↔ (a - c) * (b - c) ≤ 0 := by
  unfold inB
  rcases Int.lt_trichotomy a c with h | h | h
  · rcases Int.lt_or_le b c with q | q
    · have := Int.mul_pos_of_neg_of_neg (show a - c < 0 by omega) (show b - c < 0 by omega)
      omega
    · have := Int.mul_nonpos_of_nonpos_of_nonneg (show a - c ≤ 0 by omega) (show 0 ≤ b - c by omega)
      omega
  · subst h; simp; omega
  · rcases Int.lt_or_le c b with q | q
    · have := Int.mul_pos (show 0 < a - c by omega) (show 0 < b - c by omega)
      omega
    · have := Int.mul_nonpos_of_nonneg_of_nonpos (show 0 ≤ a - c by omega) (show b - c ≤ 0 by omega)
      omega
