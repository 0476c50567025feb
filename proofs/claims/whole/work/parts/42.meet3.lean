def sgn32 (c : Int) : Int32 := if c ≤ 0 then (if 0 ≤ c then 0 else -1) else 1
theorem sgn_3 (c : Int) : (c < 0 ∧ sgn32 c = -1) ∨ (c = 0 ∧ sgn32 c = 0) ∨ (0 < c ∧ sgn32 c = 1) := by
  unfold sgn32
  rcases Int.lt_trichotomy c 0 with h | h | h
  · exact Or.inl ⟨h, by rw [if_pos (by omega), if_neg (by omega)]⟩
  · exact Or.inr (Or.inl ⟨h, by rw [if_pos (by omega), if_pos (by omega)]⟩)
  · exact Or.inr (Or.inr ⟨h, by rw [if_neg (by omega)]⟩)
theorem M_hand {n : Nat} {x y : Nat → Nat} {h : Hp} (hP : PtR (h 33) (h 34) n x y) (hn : n ≤ 11) {p q s : Nat} (hp : p < n) (hq : q < n) (hs : s < n) : f_M_hand (nI p) (nI q) (nI s) h = some (sgn32 (crP x y p q s), h) := by
  obtain ⟨p1, p2, p3, p4⟩ := hP p hp
  obtain ⟨q1, q2, q3, q4⟩ := hP q hq
  obtain ⟨s1, s2, s3, s4⟩ := hP s hs
  have e := (side_ti p3 p4 q3 q4 s3 s4).1
  unfold f_M_hand
  rw [chk_nI (by omega) (by omega), chk_nI (by omega) (by omega), chk_nI (by omega) (by omega), chk_nI (by omega) (by omega), chk_nI (by omega) (by omega), chk_nI (by omega) (by omega), chk_nI (by omega) (by omega), chk_nI (by omega) (by omega), ix_nI (by omega), ix_nI (by omega), ix_nI (by omega), p1, p2, q1, q2, s1, s2]
  show (if side32 (x p) (y p) (x q) (y q) (x s) (y s) ≤ 0 then (if 0 ≤ side32 (x p) (y p) (x q) (y q) (x s) (y s) then some ((0 : Int32), h) else some (-1, h)) else some (1, h)) = _
  have k1 : side32 (x p) (y p) (x q) (y q) (x s) (y s) ≤ 0 ↔ crP x y p q s ≤ 0 := by rw [le_iff, e]; exact Iff.rfl
  have k2 : 0 ≤ side32 (x p) (y p) (x q) (y q) (x s) (y s) ↔ 0 ≤ crP x y p q s := by rw [le_iff, e]; exact Iff.rfl
  unfold sgn32
  by_cases c1 : crP x y p q s ≤ 0
  · rw [if_pos (k1.mpr c1), if_pos c1]
    by_cases c2 : 0 ≤ crP x y p q s
    · rw [if_pos (k2.mpr c2), if_pos c2]
    · rw [if_neg (fun w => c2 (k2.mp w)), if_neg c2]
  · rw [if_neg (fun w => c1 (k1.mp w)), if_neg c1]
def btwB (x y : Nat → Nat) (p q s : Nat) : Bool := decide (farN x y p s + farN x y s q = farN x y p q)
theorem M_isBetween {n : Nat} {x y : Nat → Nat} {h : Hp} (hP : PtR (h 33) (h 34) n x y) (hn : n ≤ 11) {p q s : Nat} (hp : p < n) (hq : q < n) (hs : s < n) : f_M_isBetween (nI p) (nI q) (nI s) h = some (if btwB x y p q s = true then 1 else 0, h) := by
  obtain ⟨-, -, p3, p4⟩ := hP p hp
  obtain ⟨-, -, q3, q4⟩ := hP q hq
  obtain ⟨-, -, s3, s4⟩ := hP s hs
  have f1 := farN_lt (x := x) (y := y) (p := p) (q := s) p3 s3 p4 s4
  have f2 := farN_lt (x := x) (y := y) (p := s) (q := q) s3 q3 s4 q4
  have f3 := farN_lt (x := x) (y := y) (p := p) (q := q) p3 q3 p4 q4
  unfold f_M_isBetween btwB
  rw [M_farOf hP hn hp hs, bnd_some, M_farOf hP hn hs hq, bnd_some, M_farOf hP hn hp hq, bnd_some, nI_add]
  by_cases e : farN x y p s + farN x y s q = farN x y p q
  · rw [if_pos (congrArg nI e), decide_eq_true e]; rfl
  · rw [if_neg (fun w => e (nI_inj (by omega) (by omega) w)), decide_eq_false e]; rfl
theorem btw_iff {x y : Nat → Nat} {p q s : Nat} : btwB x y p q s = true ↔ (inB (x p) (x q) (x s) ∧ inB (y p) (y q) (y s)) := by
  unfold btwB inB farN
  rw [decide_eq_true_iff]
  omega
