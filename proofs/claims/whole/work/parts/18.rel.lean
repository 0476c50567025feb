/-! PURE: the relation that calls keep -/
theorem tak_f {X Y : Nat → Int32} {u v : Int32} : ∀ {n : Nat}, tak X Y u v n = false → ∀ j, j < n → ¬ (X j = u ∧ Y j = v)
  | 0, _, j, hj => by omega
  | n + 1, h, j, hj => by
    rw [tak] at h
    obtain ⟨h1, h2⟩ := Bool.or_eq_false_iff.mp h
    by_cases e : j = n
    · subst e; intro z; simp [z.1, z.2] at h2
    · exact tak_f h1 j (by omega)
def okT (tx : Nat → Int32) (n : Nat) : Prop := ∀ k, k < n → dg (tx (3 * k)) = true ∧ dg (tx (3 * k + 1)) = true ∧ tak (pxX tx) (pxY tx) (pxX tx k) (pxY tx k) k = false
theorem pz_ok {tx : Nat → Int32} {tl : Nat} : ∀ (f i : Nat), i + f ≤ 10 → okT tx i → (pz tx tl f i).2 ≤ 10 ∧ okT tx (pz tx tl f i).2
  | 0, i, _, _ => ⟨Nat.zero_le _, fun k hk => absurd hk (Nat.not_lt_zero k)⟩
  | f + 1, i, hi, ho => by
    have z : ((0 : Nat) ≤ 10 ∧ okT tx 0) := ⟨by omega, fun k hk => absurd hk (Nat.not_lt_zero k)⟩
    rw [pz]
    split
    · next h1 =>
      split
      · next h2 =>
        have ho1 : okT tx (i + 1) := by
          intro k hk
          by_cases e : k = i
          · subst e; exact ⟨h1.2, h2.2.1, h2.2.2⟩
          · exact ho k (by omega)
        split
        · exact ⟨by show i + 1 ≤ 10; omega, ho1⟩
        · split
          · exact pz_ok f (i + 1) (by omega) ho1
          · exact z
      · exact z
    · exact z
theorem parse_ok (tx : Nat → Int32) (tl : Nat) : (parse tx tl).2 ≤ 10 ∧ okT tx (parse tx tl).2 := by
  unfold parse
  split
  · exact ⟨Nat.zero_le _, fun k hk => absurd hk (Nat.not_lt_zero k)⟩
  · exact pz_ok 10 0 (by omega) (fun k hk => absurd hk (Nat.not_lt_zero k))
def xT (tx : Nat → Int32) : Nat → Nat := fun k => ix (pxX tx k)
def yT (tx : Nat → Int32) : Nat → Nat := fun k => ix (pxY tx k)
theorem okT_pt {tx : Nat → Int32} {n : Nat} (h : okT tx n) : (∀ k, k < n → pxX tx k = nI (xT tx k) ∧ pxY tx k = nI (yT tx k) ∧ xT tx k < 10 ∧ yT tx k < 10) ∧ Dist n (xT tx) (yT tx) := by
  have key : ∀ k, k < n → pxX tx k = nI (xT tx k) ∧ pxY tx k = nI (yT tx k) ∧ xT tx k < 10 ∧ yT tx k < 10 := by
    intro k hk
    obtain ⟨h1, h2, -⟩ := h k hk
    obtain ⟨a, ha, -, ea⟩ := dg_ex h1
    obtain ⟨b, hb, -, eb⟩ := dg_ex h2
    have e1 : xT tx k = a := by show ix (tx (3 * k) - 48) = a; rw [ea, ix_nI (by omega)]
    have e2 : yT tx k = b := by show ix (tx (3 * k + 1) - 48) = b; rw [eb, ix_nI (by omega)]
    exact ⟨by rw [e1]; exact ea, by rw [e2]; exact eb, by omega, by omega⟩
  refine ⟨key, fun k hk => ⟨(key k hk).2.2.1, (key k hk).2.2.2⟩, ?_⟩
  have lt : ∀ i j, i < n → j < n → i < j → xT tx i = xT tx j → yT tx i = yT tx j → False := by
    intro i j hi hj hij e1 e2
    have := tak_f (h j hj).2.2 i hij
    exact this ⟨by rw [(key i hi).1, (key j hj).1, e1], by rw [(key i hi).2.1, (key j hj).2.1, e2]⟩
  intro i j hi hj e1 e2
  rcases Nat.lt_trichotomy i j with q | q | q
  · exact (lt i j hi hj q e1 e2).elim
  · exact q
  · exact (lt j i hj hi q e1.symm e2.symm).elim
/-- cells of no account -/
def scr (a k : Nat) : Bool := [6, 7, 8, 15, 16, 17, 18, 19, 20, 21, 22, 33, 34, 35, 36, 40, 45].contains a || (a == 31 && [2, 10, 11, 12].contains k)
def Same (h h' : Hp) : Prop := ∀ a k, scr a k = false → h' a k = h a k
theorem Same.rf (h : Hp) : Same h h := fun _ _ _ => rfl
theorem Same.tr {a b c : Hp} (h1 : Same a b) (h2 : Same b c) : Same a c := fun q k g => (h2 q k g).trans (h1 q k g)
theorem Same.row {h h' : Hp} (hs : Same h h') (a : Nat) (ha : ∀ k, scr a k = false) : h' a = h a := funext fun k => hs a k (ha k)
theorem scr_row {a : Nat} (h1 : [6, 7, 8, 15, 16, 17, 18, 19, 20, 21, 22, 33, 34, 35, 36, 40, 45].contains a = false) (h2 : a ≠ 31) : ∀ k, scr a k = false := by
  intro k; unfold scr; rw [h1]; simp [h2]
theorem Same.mfr {h h' : Hp} (hm : mfr h h') : Same h h' := by
  intro a k hs
  by_cases e : a = 31
  · subst e
    refine hm.2 k ?_ ?_ ?_ <;> (rintro rfl; cases hs)
  · refine congrFun (hm.1 a e ?_) k
    rintro rfl; cases hs
theorem Same.pfr {h h' : Hp} (hm : pfr h h') : Same h h' := by
  intro a k hs
  by_cases e : a = 31
  · subst e
    refine hm.2 k ?_
    rintro rfl; cases hs
  · refine congrFun (hm.1 a e ?_ ?_) k <;> (rintro rfl; cases hs)
/-- class scratch: a spider, the other frame -/
theorem Same.sp {h h' : Hp} {a : Nat} (ha : a = 15 ∨ a = 17 ∨ a = 19 ∨ a = 21) (hm : ∀ b, b ≠ a → b ≠ a + 1 → h' b = h b) : Same h h' := by
  intro b k hs
  refine congrFun (hm b ?_ ?_) k
  · rintro rfl; rcases ha with rfl | rfl | rfl | rfl <;> cases hs
  · rintro rfl; rcases ha with rfl | rfl | rfl | rfl <;> cases hs
theorem Same.of {h h' : Hp} {a : Nat} (ha : a = 6) (hm : cfr a h h') : Same h h' := by
  subst ha
  intro b k hs
  refine congrFun (hm b ?_ ?_ ?_) k <;> (rintro rfl; cases hs)
def RT (h : Hp) : Prop := ∃ tl, tl ≤ 40 ∧ h 1 1 = nI tl ∧ h 31 1 = nI tl ∧ h 2 = h 32 ∧ h 0 6 = (parse (h 32) tl).1 ∧ h 3 2 = nI (parse (h 32) tl).2 ∧ ∀ k, k < (parse (h 32) tl).2 → h 4 k = pxX (h 32) k ∧ h 5 k = pxY (h 32) k
def RV (h : Hp) : Prop := h 0 7 = h 31 5 ∧ (∃ thr, thr ≤ 200 ∧ h 0 8 = nI thr ∧ h 31 6 = nI thr) ∧ (∃ hun, hun ≤ 9 ∧ h 0 9 = nI hun ∧ h 31 7 = nI hun) ∧ (∃ rea, rea ≤ 9 ∧ h 0 10 = nI rea ∧ h 31 8 = nI rea) ∧ h 0 11 = h 31 24
def RN (h : Hp) : Prop := h 11 = h 37 ∧ h 12 = h 38 ∧ h 13 = h 39 ∧ ∃ ns, ns ≤ 8 ∧ h 10 3 = nI ns ∧ h 31 14 = nI ns ∧ ∀ i, i < ns → ∃ f t q, f < 10 ∧ 1 ≤ t ∧ t < 10 ∧ q < 10 ∧ h 37 i = nI f ∧ h 38 i = nI t ∧ h 39 i = nI q
def ShR (h : Hp) (s : Nat) : Prop := ∃ (th : Bool) (f z : Nat), f < 3 ∧ z ≤ 48 ∧ h 41 s = (if th = true then 1 else 0) ∧ h (23 + 2 * s) 1 = (if th = true then 0 else 1) ∧ h (23 + 2 * s) 2 = nI f ∧ h 42 s = nI f ∧ h (23 + 2 * s) 3 = nI z ∧ h 43 s = nI z ∧ ∀ i, i < z → h (24 + 2 * s) i = h 44 (48 * s + i)
def RS (h : Hp) : Prop := ∀ s, s < 4 → ShR h s
def Rel (h : Hp) : Prop := RT h ∧ RV h ∧ RN h ∧ RS h
theorem RT.cg {h h' : Hp} (hr : RT h) (e1 : h' 1 1 = h 1 1) (e2 : h' 31 1 = h 31 1) (e3 : h' 2 = h 2) (e4 : h' 32 = h 32) (e5 : h' 0 6 = h 0 6) (e6 : h' 3 = h 3) (e7 : h' 4 = h 4) (e8 : h' 5 = h 5) : RT h' := by
  unfold RT; rw [e1, e2, e3, e4, e5, e6, e7, e8]; exact hr
theorem RV.cg {h h' : Hp} (hr : RV h) (e1 : ∀ k, 7 ≤ k → k ≤ 11 → h' 0 k = h 0 k) (e2 : ∀ k, 5 ≤ k → k ≤ 8 → h' 31 k = h 31 k) (e3 : h' 31 24 = h 31 24) : RV h' := by
  unfold RV
  rw [e1 7 (by omega) (by omega), e1 8 (by omega) (by omega), e1 9 (by omega) (by omega), e1 10 (by omega) (by omega), e1 11 (by omega) (by omega), e2 5 (by omega) (by omega), e2 6 (by omega) (by omega), e2 7 (by omega) (by omega), e2 8 (by omega) (by omega), e3]
  exact hr
theorem RN.cg {h h' : Hp} (hr : RN h) (e1 : h' 10 3 = h 10 3) (e2 : h' 31 14 = h 31 14) (e3 : ∀ a, 11 ≤ a → a ≤ 13 → h' a = h a) (e4 : ∀ a, 37 ≤ a → a ≤ 39 → h' a = h a) : RN h' := by
  unfold RN
  rw [e1, e2, e3 11 (by omega) (by omega), e3 12 (by omega) (by omega), e3 13 (by omega) (by omega), e4 37 (by omega) (by omega), e4 38 (by omega) (by omega), e4 39 (by omega) (by omega)]
  exact hr
theorem ShR.cg {h h' : Hp} {s : Nat} (hr : ShR h s) (e1 : h' 41 s = h 41 s) (e2 : h' 42 s = h 42 s) (e3 : h' 43 s = h 43 s) (e4 : h' (23 + 2 * s) = h (23 + 2 * s)) (e5 : h' (24 + 2 * s) = h (24 + 2 * s)) (e6 : ∀ i, i < 48 → h' 44 (48 * s + i) = h 44 (48 * s + i)) : ShR h' s := by
  obtain ⟨th, f, z, h1, h2, h3, h4, h5, h6, h7, h8, h9⟩ := hr
  exact ⟨th, f, z, h1, h2, by rw [e1]; exact h3, by rw [e4]; exact h4, by rw [e4]; exact h5, by rw [e2]; exact h6, by rw [e4]; exact h7, by rw [e3]; exact h8, fun i hi => by rw [e5, e6 i (by omega)]; exact h9 i hi⟩
theorem RS.cg {h h' : Hp} (hr : RS h) (e1 : ∀ a, 23 ≤ a → a ≤ 30 → h' a = h a) (e2 : ∀ a, 41 ≤ a → a ≤ 44 → h' a = h a) : RS h' := fun s hs => (hr s hs).cg (by rw [e2 41 (by omega) (by omega)]) (by rw [e2 42 (by omega) (by omega)]) (by rw [e2 43 (by omega) (by omega)]) (e1 _ (by omega) (by omega)) (e1 _ (by omega) (by omega)) (fun i _ => by rw [e2 44 (by omega) (by omega)])
theorem scr23 : ∀ a, 23 ≤ a → a ≤ 30 → [6, 7, 8, 15, 16, 17, 18, 19, 20, 21, 22, 33, 34, 35, 36, 40, 45].contains a = false := by
  intro a h1 h2
  have : ∀ a, a < 31 → 23 ≤ a → [6, 7, 8, 15, 16, 17, 18, 19, 20, 21, 22, 33, 34, 35, 36, 40, 45].contains a = false := by decide
  exact this a (by omega) h1
theorem Rel.same {h h' : Hp} (hr : Rel h) (hs : Same h h') : Rel h' := by
  obtain ⟨r1, r2, r3, r4⟩ := hr
  refine ⟨r1.cg (hs 1 1 rfl) (hs 31 1 rfl) (hs.row 2 (scr_row rfl (by omega))) (hs.row 32 (scr_row rfl (by omega))) (hs 0 6 rfl) (hs.row 3 (scr_row rfl (by omega))) (hs.row 4 (scr_row rfl (by omega))) (hs.row 5 (scr_row rfl (by omega))), r2.cg (fun k _ _ => hs 0 k ?_) (fun k h1 h2 => hs 31 k ?_) (hs 31 24 rfl), r3.cg (hs 10 3 rfl) (hs 31 14 rfl) (fun a h1 h2 => ?_) (fun a h1 h2 => ?_), r4.cg (fun a h1 h2 => hs.row a (scr_row (scr23 a h1 h2) (by omega))) (fun a h1 h2 => ?_)⟩
  · exact scr_row rfl (by omega) k
  · rcases (show k = 5 ∨ k = 6 ∨ k = 7 ∨ k = 8 by omega) with rfl | rfl | rfl | rfl <;> rfl
  · rcases (show a = 11 ∨ a = 12 ∨ a = 13 by omega) with rfl | rfl | rfl <;> exact hs.row _ (scr_row rfl (by omega))
  · rcases (show a = 37 ∨ a = 38 ∨ a = 39 by omega) with rfl | rfl | rfl <;> exact hs.row _ (scr_row rfl (by omega))
  · rcases (show a = 41 ∨ a = 42 ∨ a = 43 ∨ a = 44 by omega) with rfl | rfl | rfl | rfl <;> exact hs.row _ (scr_row rfl (by omega))
/-- what a call about webs sees -/
def Ctx (h : Hp) (n : Nat) (x y : Nat → Nat) (thr hun rea : Nat) (hid flt : Int32) : Prop :=
  (n ≤ 10 ∧ Dist n x y ∧ thr ≤ 200 ∧ hun ≤ 9 ∧ rea ≤ 9) ∧ (h 3 2 = nI n ∧ PtR (h 4) (h 5) n x y ∧ h 0 7 = hid ∧ h 0 8 = nI thr ∧ h 0 9 = nI hun ∧ h 0 10 = nI rea ∧ h 0 6 = flt) ∧
  (h 31 5 = hid ∧ h 31 6 = nI thr ∧ h 31 7 = nI hun ∧ h 31 8 = nI rea) ∧ ∃ tl, tl ≤ 40 ∧ h 31 1 = nI tl ∧ flt = (parse (h 32) tl).1 ∧ n = (parse (h 32) tl).2 ∧ ∀ k, k < n → pxX (h 32) k = nI (x k) ∧ pxY (h 32) k = nI (y k)
theorem Ctx.same {h g : Hp} {n : Nat} {x y : Nat → Nat} {thr hun rea : Nat} {hid flt : Int32} (hs : Same h g) (c : Ctx h n x y thr hun rea hid flt) : Ctx g n x y thr hun rea hid flt := by
  unfold Ctx
  rw [hs.row 3 (scr_row rfl (by omega)), hs.row 4 (scr_row rfl (by omega)), hs.row 5 (scr_row rfl (by omega)), hs 0 7 rfl, hs 0 8 rfl, hs 0 9 rfl, hs 0 10 rfl, hs 0 6 rfl, hs 31 5 rfl, hs 31 6 rfl, hs 31 7 rfl, hs 31 8 rfl, hs 31 1 rfl, hs.row 32 (scr_row rfl (by omega))]
  exact c
theorem Rel.ctx {h : Hp} (hr : Rel h) : ∃ n x y thr hun rea hid flt, Ctx h n x y thr hun rea hid flt := by
  obtain ⟨⟨tl, h1, h2, h3, h4, h5, h6, h7⟩, ⟨v1, ⟨thr, t1, t2, t3⟩, ⟨hun, u1, u2, u3⟩, ⟨rea, w1, w2, w3⟩, v2⟩, -, -⟩ := hr
  obtain ⟨p1, p2⟩ := parse_ok (h 32) tl
  obtain ⟨q1, q2⟩ := okT_pt p2
  refine ⟨(parse (h 32) tl).2, xT (h 32), yT (h 32), thr, hun, rea, h 31 5, (parse (h 32) tl).1, ⟨p1, q2, t1, u1, w1⟩, ⟨h6, fun k hk => ⟨(h7 k hk).1.trans (q1 k hk).1, (h7 k hk).2.trans (q1 k hk).2.1, (q1 k hk).2.2⟩, v1, t2, u2, w2, h5⟩, ⟨rfl, t3, u3, w3⟩, tl, h1, h3, rfl, rfl, fun k hk => ⟨(q1 k hk).1, (q1 k hk).2.1⟩⟩
/-- the reference's pegs, once they have been read -/
def MP (h : Hp) (n : Nat) (x y : Nat → Nat) : Prop := h 31 2 = nI n ∧ PtR (h 33) (h 34) n x y
theorem Ctx.fault {h : Hp} {n : Nat} {x y : Nat → Nat} {thr hun rea : Nat} {hid flt : Int32} (c : Ctx h n x y thr hun rea hid flt) : ∃ h', f_M_faultNow h = some (flt, h') ∧ Same h h' ∧ MP h' n x y ∧ Ctx h' n x y thr hun rea hid flt := by
  obtain ⟨⟨-, hD, -⟩, -, -, tl, h1, h2, h3, h4, h5⟩ := id c
  obtain ⟨h', g1, g2, g3, g4⟩ := M_faultNow h1 h2
  have hs := Same.pfr g4
  refine ⟨h', by rw [h3]; exact g1, hs, ⟨by rw [h4]; exact g2, fun k hk => ?_⟩, c.same hs⟩
  have := g3 k (by rw [← h4]; exact hk)
  exact ⟨this.1.trans (h5 k hk).1, this.2.trans (h5 k hk).2, hD.1 k hk⟩
def inN (x : Int32) (n : Nat) : Bool := decide (0 ≤ x.toInt ∧ x.toInt < n)
theorem inN_ex {x : Int32} {n : Nat} (h : inN x n = true) (hn : n < 2 ^ 31) : ∃ k, k < n ∧ x = nI k := isN_ex (by simpa [inN, isN] using h) hn
theorem inN_nI {k n : Nat} (h : k < n) (hn : n < 2 ^ 31) : inN (nI k) n = true := by
  have := isN_nI h hn
  simpa [inN, isN] using this
theorem in_pred (u : Int32) {n : Nat} (hn : n ≤ 100) (h : Hp) : f_M_in u 0 (nI n - 1) h = some (if inN u n = true then 1 else 0, h) := by
  have e1 : (nI n - 1).toInt = (n : Int) - 1 := pk_sub_toInt (a := n) (b := 1) (by omega) (by omega)
  have e0 : (0 : Int32).toInt = 0 := by decide
  unfold f_M_in
  simp only [lt_iff, e1, e0]
  by_cases h1 : u.toInt < 0
  · rw [if_pos h1, if_neg (by simp only [inN, decide_eq_true_eq]; omega)]
  · rw [if_neg h1]
    by_cases h2 : (n : Int) - 1 < u.toInt
    · rw [if_pos h2, if_neg (by simp only [inN, decide_eq_true_eq]; omega)]
    · rw [if_neg h2, if_pos (by simp only [inN, decide_eq_true_eq]; omega)]
theorem in_lit (u : Int32) {n : Nat} (hn : n < 2 ^ 30) (h : Hp) : f_M_in u 0 (nI n) h = some (if inN u (n + 1) = true then 1 else 0, h) := by
  rw [show f_M_in u 0 (nI n) h = _ from M_in u (a := 0) (b := n) (by decide) hn h]
  by_cases h1 : inN u (n + 1) = true
  · rw [if_pos h1, if_pos (by simp only [inN, decide_eq_true_eq] at h1; omega)]
  · rw [if_neg h1, if_neg (by simp only [inN, decide_eq_true_eq] at h1; omega)]
theorem Ctx.isPeg {h : Hp} {n : Nat} {x y : Nat → Nat} {thr hun rea : Nat} {hid flt : Int32} (c : Ctx h n x y thr hun rea hid flt) (u : Int32) : ∃ h', f_M_isPeg u h = some (if inN u n = true then 1 else 0, h') ∧ Same h h' ∧ MP h' n x y ∧ Ctx h' n x y thr hun rea hid flt := by
  obtain ⟨h', g1, g2, g3, g4⟩ := c.fault
  refine ⟨h', ?_, g2, g3, g4⟩
  have hn : n ≤ 10 := c.1.1
  unfold f_M_isPeg
  rw [g1, bnd_some, g3.1, in_pred u (by omega), bnd_some, b01]
