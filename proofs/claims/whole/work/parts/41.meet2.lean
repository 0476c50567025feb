theorem jmaxN {a b : Nat} (ha : a < 2 ^ 31) (hb : b < 2 ^ 31) : jmax (nI a) (nI b) = nI (max a b) := by
  unfold jmax
  by_cases h : a < b
  · rw [if_pos (nI_lt h hb), Nat.max_eq_right (by omega)]
  · rw [if_neg (nI_nlt (by omega) ha), Nat.max_eq_left (by omega)]
theorem jminN {a b : Nat} (ha : a < 2 ^ 31) (hb : b < 2 ^ 31) : jmin (nI a) (nI b) = nI (min a b) := by
  unfold jmin
  by_cases h : b < a
  · rw [if_pos (nI_lt h ha), Nat.min_eq_right (by omega)]
  · rw [if_neg (nI_nlt (by omega) hb), Nat.min_eq_left (by omega)]
def ovB (a b c d : Nat) : Bool := !decide (max a b < min c d) && !decide (max c d < min a b)
theorem ovB_iff (a b c d : Nat) : ovB a b c d = true ↔ ov a b c d := by
  unfold ovB ov
  simp only [Bool.and_eq_true, Bool.not_eq_true', decide_eq_false_iff_not]
  omega
theorem Fr_overlap {a b c d : Nat} (h1 : a < 10) (h2 : b < 10) (h3 : c < 10) (h4 : d < 10) (h : Hp) : f_Fr_overlap (nI a) (nI b) (nI c) (nI d) h = some (if ovB a b c d = true then 1 else 0, h) := by
  unfold f_Fr_overlap ovB
  rw [jmaxN (by omega) (by omega), jminN (by omega) (by omega), jmaxN (by omega) (by omega), jminN (by omega) (by omega)]
  by_cases q1 : max a b < min c d
  · rw [if_pos (nI_lt q1 (by omega)), decide_eq_true q1]; rfl
  · rw [if_neg (nI_nlt (by omega) (by omega)), decide_eq_false q1]
    by_cases q2 : max c d < min a b
    · rw [if_pos (nI_lt q2 (by omega)), decide_eq_true q2]; rfl
    · rw [if_neg (nI_nlt (by omega) (by omega)), decide_eq_false q2]; rfl
def crP (x y : Nat → Nat) (p q s : Nat) : Int := crN (x p) (y p) (x q) (y q) (x s) (y s)
def meetB (x y : Nat → Nat) (p q r s : Nat) : Bool := ovB (x p) (x q) (x r) (x s) && (ovB (y p) (y q) (y r) (y s) && (decide (crP x y p q r * crP x y p q s ≤ 0) && decide (crP x y r s p * crP x y r s q ≤ 0)))
theorem pos32 {r s : Int32} {a b : Int} (h1 : r.toInt = a ∧ -162 ≤ a ∧ a ≤ 162) (h2 : s.toInt = b ∧ -162 ≤ b ∧ b ≤ 162) : 0 < r * s ↔ 0 < a * b := by
  rw [lt_iff, prod_ti h1.1 h2.1 h1.2 h2.2]; exact Iff.rfl
theorem Fr_meet {a n : Nat} {x y : Nat → Nat} {h : Hp} (hP : PtR (h (a + 1)) (h (a + 2)) n x y) (hn : n ≤ 10) {p q r s : Nat} (hp : p < n) (hq : q < n) (hr : r < n) (hs : s < n) : f_Fr_meet a (nI p) (nI q) (nI r) (nI s) h = some (if meetB x y p q r s = true then 1 else 0, h) := by
  obtain ⟨p1, p2, p3, p4⟩ := hP p hp
  obtain ⟨q1, q2, q3, q4⟩ := hP q hq
  obtain ⟨r1, r2, r3, r4⟩ := hP r hr
  obtain ⟨s1, s2, s3, s4⟩ := hP s hs
  unfold f_Fr_meet meetB
  rw [chk_nI (by omega) (by omega), chk_nI (by omega) (by omega), chk_nI (by omega) (by omega), chk_nI (by omega) (by omega), ix_nI (by omega), ix_nI (by omega), ix_nI (by omega), ix_nI (by omega), p1, q1, r1, s1, Fr_overlap p3 q3 r3 s3, bnd_some]
  cases ovB (x p) (x q) (x r) (x s) with
  | false => rfl
  | true =>
    rw [if_neg (show ¬ (if true = true then (1 : Int32) else 0) = 0 by decide), chk_nI (by omega) (by omega), chk_nI (by omega) (by omega), chk_nI (by omega) (by omega), chk_nI (by omega) (by omega), p2, q2, r2, s2, Fr_overlap p4 q4 r4 s4, bnd_some, Bool.true_and]
    cases ovB (y p) (y q) (y r) (y s) with
    | false => rfl
    | true =>
      have k1 := pos32 (side_ti p3 p4 q3 q4 r3 r4) (side_ti p3 p4 q3 q4 s3 s4)
      have k2 := pos32 (side_ti r3 r4 s3 s4 p3 p4) (side_ti r3 r4 s3 s4 q3 q4)
      rw [if_neg (show ¬ (if true = true then (1 : Int32) else 0) = 0 by decide), Fr_side hP hn hp hq hr, bnd_some, Fr_side hP hn hp hq hs, bnd_some, Bool.true_and]
      by_cases c1 : crP x y p q r * crP x y p q s ≤ 0
      · rw [if_neg (fun w => by have := k1.mp w; unfold crP at c1; omega), decide_eq_true c1, Fr_side hP hn hr hs hp, bnd_some, Fr_side hP hn hr hs hq, bnd_some, Bool.true_and]
        by_cases c2 : crP x y r s p * crP x y r s q ≤ 0
        · rw [if_neg (fun w => by have := k2.mp w; unfold crP at c2; omega), decide_eq_true c2]; rfl
        · rw [if_pos (k2.mpr (by unfold crP at c2; omega)), decide_eq_false c2]; rfl
      · rw [if_pos (k1.mpr (by unfold crP at c1; omega)), decide_eq_false c1]; rfl
