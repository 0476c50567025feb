/-! PURE: where two threads meet, as both tell it -/
theorem mul_bd {K x y : Int} (h1 : -K ≤ x) (h2 : x ≤ K) (h3 : -K ≤ y) (h4 : y ≤ K) : -(K * K) ≤ x * y ∧ x * y ≤ K * K := by
  have a := Int.mul_nonneg (show 0 ≤ K - x by omega) (show 0 ≤ K + y by omega)
  have b := Int.mul_nonneg (show 0 ≤ K + x by omega) (show 0 ≤ K - y by omega)
  have c := Int.mul_nonneg (show 0 ≤ K - x by omega) (show 0 ≤ K - y by omega)
  have d := Int.mul_nonneg (show 0 ≤ K + x by omega) (show 0 ≤ K + y by omega)
  have e1 : (K - x) * (K + y) + (K + x) * (K - y) = 2 * (K * K) - 2 * (x * y) := by grind
  have e2 : (K - x) * (K - y) + (K + x) * (K + y) = 2 * (K * K) + 2 * (x * y) := by grind
  omega
theorem mul_ti {x y : Int32} (h1 : -2147483648 ≤ x.toInt * y.toInt) (h2 : x.toInt * y.toInt < 2147483648) : (x * y).toInt = x.toInt * y.toInt := by
  rw [Int32.toInt_mul]; exact Int.bmod_eq_of_le (by omega) (by omega)
theorem sub_ti {x y : Int32} (h1 : -2147483648 ≤ x.toInt - y.toInt) (h2 : x.toInt - y.toInt < 2147483648) : (x - y).toInt = x.toInt - y.toInt := by
  rw [Int32.toInt_sub]; exact Int.bmod_eq_of_le (by omega) (by omega)
def side32 (ax ay bx by' cx cy : Nat) : Int32 := (nI bx - nI ax) * (nI cy - nI ay) - (nI by' - nI ay) * (nI cx - nI ax)
def crN (ax ay bx by' cx cy : Nat) : Int := cr ax ay bx by' cx cy
theorem side_ti {ax ay bx by' cx cy : Nat} (h1 : ax < 10) (h2 : ay < 10) (h3 : bx < 10) (h4 : by' < 10) (h5 : cx < 10) (h6 : cy < 10) : (side32 ax ay bx by' cx cy).toInt = crN ax ay bx by' cx cy ∧ -162 ≤ crN ax ay bx by' cx cy ∧ crN ax ay bx by' cx cy ≤ 162 := by
  have d1 : (nI bx - nI ax).toInt = (bx : Int) - ax := pk_sub_toInt (by omega) (by omega)
  have d2 : (nI cy - nI ay).toInt = (cy : Int) - ay := pk_sub_toInt (by omega) (by omega)
  have d3 : (nI by' - nI ay).toInt = (by' : Int) - ay := pk_sub_toInt (by omega) (by omega)
  have d4 : (nI cx - nI ax).toInt = (cx : Int) - ax := pk_sub_toInt (by omega) (by omega)
  have b1 := mul_bd (K := 9) (x := (bx : Int) - ax) (y := (cy : Int) - ay) (by omega) (by omega) (by omega) (by omega)
  have b2 := mul_bd (K := 9) (x := (by' : Int) - ay) (y := (cx : Int) - ax) (by omega) (by omega) (by omega) (by omega)
  have m1 : ((nI bx - nI ax) * (nI cy - nI ay)).toInt = ((bx : Int) - ax) * ((cy : Int) - ay) := by
    rw [mul_ti (by rw [d1, d2]; omega) (by rw [d1, d2]; omega), d1, d2]
  have m2 : ((nI by' - nI ay) * (nI cx - nI ax)).toInt = ((by' : Int) - ay) * ((cx : Int) - ax) := by
    rw [mul_ti (by rw [d3, d4]; omega) (by rw [d3, d4]; omega), d3, d4]
  unfold side32 crN cr
  rw [sub_ti (by rw [m1, m2]; omega) (by rw [m1, m2]; omega), m1, m2]
  exact ⟨rfl, by omega, by omega⟩
theorem prod_ti {r s : Int32} {a b : Int} (h1 : r.toInt = a) (h2 : s.toInt = b) (b1 : -162 ≤ a ∧ a ≤ 162) (b2 : -162 ≤ b ∧ b ≤ 162) : (r * s).toInt = a * b := by
  have b3 := mul_bd (K := 162) (x := a) (y := b) b1.1 b1.2 b2.1 b2.2
  rw [mul_ti (by rw [h1, h2]; omega) (by rw [h1, h2]; omega), h1, h2]
theorem Fr_side {a n : Nat} {x y : Nat → Nat} {h : Hp} (hP : PtR (h (a + 1)) (h (a + 2)) n x y) (hn : n ≤ 10) {p q s : Nat} (hp : p < n) (hq : q < n) (hs : s < n) : f_Fr_side a (nI p) (nI q) (nI s) h = some (side32 (x p) (y p) (x q) (y q) (x s) (y s), h) := by
  obtain ⟨p1, p2, -⟩ := hP p hp
  obtain ⟨q1, q2, -⟩ := hP q hq
  obtain ⟨s1, s2, -⟩ := hP s hs
  unfold f_Fr_side side32
  rw [chk_nI (by omega) (by omega), chk_nI (by omega) (by omega), chk_nI (by omega) (by omega), chk_nI (by omega) (by omega), chk_nI (by omega) (by omega), chk_nI (by omega) (by omega), chk_nI (by omega) (by omega), chk_nI (by omega) (by omega), ix_nI (by omega), ix_nI (by omega), ix_nI (by omega), p1, p2, q1, q2, s1, s2]
