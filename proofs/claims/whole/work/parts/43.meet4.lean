def doB (x y : Nat → Nat) (p q r s : Nat) : Bool := (decide (crP x y p q r = 0) && btwB x y p q r) || ((decide (crP x y p q s = 0) && btwB x y p q s) || ((decide (crP x y r s p = 0) && btwB x y r s p) || ((decide (crP x y r s q = 0) && btwB x y r s q) || (decide (crP x y p q r * crP x y p q s < 0) && decide (crP x y r s p * crP x y r s q < 0)))))
theorem doB_eq {n : Nat} {x y : Nat → Nat} (hD : Dist n x y) {p q r s : Nat} (hp : p < n) (hq : q < n) (hr : r < n) (hs : s < n) (hpq : p ≠ q) (hrs : r ≠ s) : doB x y p q r s = meetB x y p q r s := by
  have d1 : (x p : Int) ≠ x q ∨ (y p : Int) ≠ y q := by
    by_cases e : x p = x q
    · right; intro e2; exact hpq (hD.2 p q hp hq e (by omega))
    · left; omega
  have d2 : (x r : Int) ≠ x s ∨ (y r : Int) ≠ y s := by
    by_cases e : x r = x s
    · right; intro e2; exact hrs (hD.2 r s hr hs e (by omega))
    · left; omega
  have k := meet_iff (r1 := crP x y p q r) (r2 := crP x y p q s) (r3 := crP x y r s p) (r4 := crP x y r s q) rfl rfl rfl rfl d1 d2
  rw [Bool.eq_iff_iff]
  unfold doB meetB
  simp only [Bool.or_eq_true, Bool.and_eq_true, decide_eq_true_eq, btw_iff, ovB_iff]
  exact k.symm
theorem sgn_0 (c : Int) : sgn32 c = 0 ↔ c = 0 := by
  rcases sgn_3 c with ⟨h, e⟩ | ⟨h, e⟩ | ⟨h, e⟩ <;> rw [e]
  · exact ⟨fun w => absurd w (by decide), fun w => by omega⟩
  · exact ⟨fun _ => h, fun _ => rfl⟩
  · exact ⟨fun w => absurd w (by decide), fun w => by omega⟩
theorem sgn_m (c d : Int) : 0 ≤ sgn32 c * sgn32 d ↔ ¬ c * d < 0 := by
  rcases sgn_3 c with ⟨h, e⟩ | ⟨h, e⟩ | ⟨h, e⟩ <;> rcases sgn_3 d with ⟨h', e'⟩ | ⟨h', e'⟩ | ⟨h', e'⟩ <;> rw [e, e']
  · have := Int.mul_pos_of_neg_of_neg h h'; exact ⟨fun _ => by omega, fun _ => by decide⟩
  · subst h'; exact ⟨fun _ => by simp, fun _ => by decide⟩
  · have := Int.mul_neg_of_neg_of_pos h h'; exact ⟨fun w => absurd w (by decide), fun w => absurd this w⟩
  · subst h; exact ⟨fun _ => by simp, fun _ => by decide⟩
  · subst h; exact ⟨fun _ => by simp, fun _ => by decide⟩
  · subst h; exact ⟨fun _ => by simp, fun _ => by decide⟩
  · have := Int.mul_neg_of_pos_of_neg h h'; exact ⟨fun w => absurd w (by decide), fun w => absurd this w⟩
  · subst h'; exact ⟨fun _ => by simp, fun _ => by decide⟩
  · have := Int.mul_pos h h'; exact ⟨fun _ => by omega, fun _ => by decide⟩
theorem M_doMeet {n : Nat} {x y : Nat → Nat} {h : Hp} (hP : PtR (h 33) (h 34) n x y) (hn : n ≤ 11) {p q r s : Nat} (hp : p < n) (hq : q < n) (hr : r < n) (hs : s < n) : f_M_doMeet (nI p) (nI q) (nI r) (nI s) h = some (if doB x y p q r s = true then 1 else 0, h) := by
  unfold f_M_doMeet doB
  simp only [M_hand hP hn hp hq hr, M_hand hP hn hp hq hs, M_hand hP hn hr hs hp, M_hand hP hn hr hs hq, M_isBetween hP hn hp hq hr, M_isBetween hP hn hp hq hs, M_isBetween hP hn hr hs hp, M_isBetween hP hn hr hs hq, bnd_some, sgn_0, sgn_m]
  generalize btwB x y p q r = b1
  generalize btwB x y p q s = b2
  generalize btwB x y r s p = b3
  generalize btwB x y r s q = b4
  by_cases z1 : crP x y p q r = 0 <;> by_cases z2 : crP x y p q s = 0 <;> by_cases z3 : crP x y r s p = 0 <;> by_cases z4 : crP x y r s q = 0 <;> by_cases z5 : crP x y p q r * crP x y p q s < 0 <;> by_cases z6 : crP x y r s p * crP x y r s q < 0 <;> cases b1 <;> cases b2 <;> cases b3 <;> cases b4 <;> simp [z1, z2, z3, z4, z5, z6]
