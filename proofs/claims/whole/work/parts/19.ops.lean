/-! PURE: calls that leave the state as it was -/
def Ans {ρ : Type} (f : Hp → Option (ρ × Hp)) (v : ρ) (h : Hp) : Prop := ∃ h', f h = some (v, h') ∧ Same h h'
def AnsM {ρ : Type} (n : Nat) (x y : Nat → Nat) (f : Hp → Option (ρ × Hp)) (v : ρ) (h : Hp) : Prop := ∃ h', f h = some (v, h') ∧ Same h h' ∧ MP h' n x y
theorem AnsM.ans {ρ : Type} {n : Nat} {x y : Nat → Nat} {f : Hp → Option (ρ × Hp)} {v : ρ} {h : Hp} (a : AnsM n x y f v h) : Ans f v h := by obtain ⟨h', a, b, -⟩ := a; exact ⟨h', a, b⟩
theorem op_of {ρ : Type} {fc fm : Hp → Option (ρ × Hp)} (H : ∀ h n x y thr hun rea hid flt, Ctx h n x y thr hun rea hid flt → ∃ v, Ans fc v h ∧ ∀ g, Ctx g n x y thr hun rea hid flt → Ans fm v g) : OpOK Rel fc fm := by
  intro h hr
  obtain ⟨n, x, y, thr, hun, rea, hid, flt, c⟩ := hr.ctx
  obtain ⟨v, ⟨h1, e1, s1⟩, hm⟩ := H h n x y thr hun rea hid flt c
  obtain ⟨h2, e2, s2⟩ := hm h1 (c.same s1)
  exact ⟨v, h1, h2, e1, e2, hr.same (s1.tr s2)⟩
theorem Fr_has {a n : Nat} {h : Hp} (u : Int32) (hs : h a 2 = nI n) (hn : n ≤ 10) : f_Fr_has a u h = some (if inN u n = true then 1 else 0, h) := by
  have e0 : (0 : Int32).toInt = 0 := by decide
  unfold f_Fr_has
  rw [hs]
  simp only [lt_iff, le_iff, e0, nI_toInt (show n < 2 ^ 31 by omega)]
  by_cases h1 : u.toInt < 0
  · rw [if_pos h1, if_neg (by simp only [inN, decide_eq_true_eq]; omega)]
  · rw [if_neg h1]
    by_cases h2 : (n : Int) ≤ u.toInt
    · rw [if_pos h2, if_neg (by simp only [inN, decide_eq_true_eq]; omega)]
    · rw [if_neg h2, if_pos (by simp only [inN, decide_eq_true_eq]; omega)]
theorem C_isLaw (u : Int32) (h : Hp) : f_C_isLaw u h = some (if inN u 4 = true then 1 else 0, h) := by
  have e0 : (0 : Int32).toInt = 0 := by decide
  have e4 : (4 : Int32).toInt = 4 := by decide
  unfold f_C_isLaw
  simp only [lt_iff, le_iff, e0, e4]
  by_cases h1 : u.toInt < 0
  · rw [if_pos h1, if_neg (by simp only [inN, decide_eq_true_eq]; omega)]
  · rw [if_neg h1]
    by_cases h2 : (4 : Int) ≤ u.toInt
    · rw [if_pos h2, if_neg (by simp only [inN, decide_eq_true_eq]; omega)]
    · rw [if_neg h2, if_pos (by simp only [inN, decide_eq_true_eq]; omega)]
theorem M_isLaw (u : Int32) (h : Hp) : f_M_isLaw u h = some (if inN u 4 = true then 1 else 0, h) := by
  unfold f_M_isLaw
  rw [show f_M_in u 0 3 h = _ from in_lit u (n := 3) (by omega) h, bnd_some, b01]
theorem M_isTen (u : Int32) (h : Hp) : f_M_isTen u h = some (if inN u 10 = true then 1 else 0, h) := by
  unfold f_M_isTen
  rw [show f_M_in u 0 9 h = _ from in_lit u (n := 9) (by omega) h, bnd_some, b01]
section OPS
variable {h : Hp} {n : Nat} {x y : Nat → Nat} {thr hun rea : Nat} {hid flt : Int32}
theorem C_can (c : Ctx h n x y thr hun rea hid flt) (u v : Int32) : f_C_canBeTold u v h = some (if (inN u n && inN v 4) = true then 1 else 0, h) := by
  unfold f_C_canBeTold
  rw [Fr_has u c.2.1.1 c.1.1, bnd_some]
  cases inN u n with
  | false => rfl
  | true =>
    rw [if_neg (by decide), C_isLaw, bnd_some]
    cases inN v 4 <;> rfl
theorem M_isWeb (c : Ctx h n x y thr hun rea hid flt) (u v : Int32) : ∃ h', f_M_isWeb u v h = some (if (inN u n && inN v 4) = true then 1 else 0, h') ∧ Same h h' ∧ MP h' n x y ∧ Ctx h' n x y thr hun rea hid flt := by
  obtain ⟨h', g1, g2, g3, g4⟩ := c.isPeg u
  refine ⟨h', ?_, g2, g3, g4⟩
  unfold f_M_isWeb
  rw [g1, bnd_some]
  cases inN u n with
  | false => rfl
  | true =>
    rw [if_neg (by decide), M_isLaw, bnd_some]
    cases inN v 4 <;> rfl
theorem C_isHidden (c : Ctx h n x y thr hun rea hid flt) {p : Nat} (hp : p < 32) : f_C_isHidden (nI p) h = some (if bt hid p = true then 1 else 0, h) := by
  unfold f_C_isHidden
  rw [c.2.1.2.2.1, bt_shr hid hp]
  cases bt hid p <;> rfl
theorem M_isHidden (c : Ctx h n x y thr hun rea hid flt) {p : Nat} (hp : p < 32) : f_M_isHidden (nI p) h = some (if bt hid p = true then 1 else 0, h) := by
  unfold f_M_isHidden
  rw [c.2.2.1.1, M_isIn hid hp, bnd_some, b01]
/-- the web of a peg by a law, beside its first peg; its way; what is left -/
theorem C_layS (c : Ctx h n x y thr hun rea hid flt) {s p l : Nat} (hs : s = 15 ∨ s = 17 ∨ s = 19 ∨ s = 21) (hp : p < n) (hl : l < 4) (wo : Int32) :
    ∃ h', f_C_lay s 3 (nI p) (nI l) wo h = some (s, h') ∧ SpR h' s (p :: webL x y n hun thr l p wo) (wayL x y p (webL x y n hun thr l p wo)) (thr - (wayL x y p (webL x y n hun thr l p wo) + hun * (webL x y n hun thr l p wo).length)) ∧ (∀ b, b ≠ s → b ≠ s + 1 → h' b = h b) ∧ Same h h' := by
  obtain ⟨⟨c1, c2, c3, c4, c5⟩, ⟨d1, d2, d3, d4, d5, d6, d7⟩, -⟩ := c
  obtain ⟨h', g1, g2, g3⟩ := C_lay (a1 := s) (a2 := 3) (wo := wo) c1 hl c4 c3 c2.1 hp (by omega) d2 d1 d5 d4
  exact ⟨h', g1, g2, g3, Same.sp hs g3⟩
theorem M_layS (c : Ctx h n x y thr hun rea hid flt) (hM : MP h n x y) {p l : Nat} (hp : p < n) (hl : l < 4) (wo : Int32) :
    ∃ h', f_M_lays (nI p) (nI l) wo h = some ((), h') ∧ MR h' (p :: webL x y n hun thr l p wo) (wayL x y p (webL x y n hun thr l p wo)) (thr - (wayL x y p (webL x y n hun thr l p wo) + hun * (webL x y n hun thr l p wo).length)) ∧ mfr h h' ∧ Same h h' ∧ MP h' n x y ∧ Ctx h' n x y thr hun rea hid flt := by
  obtain ⟨⟨c1, c2, c3, c4, c5⟩, -, ⟨e1, e2, e3, e4⟩, -⟩ := id c
  obtain ⟨h', g1, g2, g3⟩ := M_lays (wo := wo) c1 hl c4 c3 c2 hp hM.2 hM.1 e3 e2
  have hs := Same.mfr g3
  exact ⟨h', g1, g2, g3, hs, ⟨by rw [g3.2 2 (by omega) (by omega) (by omega)]; exact hM.1, by rw [g3.1 33 (by omega) (by omega), g3.1 34 (by omega) (by omega)]; exact hM.2⟩, c.same hs⟩
theorem webL_len (hn : n ≤ 10) {l p : Nat} {wo : Int32} (hp : p < n) : (p :: webL x y n hun thr l p wo).length ≤ n := by
  have key : ∀ (k a : Nat) (fr : Nat → Bool) (left : Nat), (layS x y l n hun k a fr left).length ≤ k := by
    intro k
    induction k with
    | zero => intros; exact Nat.le_refl 0
    | succ k ih =>
      intro a fr left
      rw [layS]
      split
      · exact Nat.zero_le _
      · next t _ =>
        split
        · rw [List.length_cons]; have := ih t (del fr t) (left - (farN x y a t + hun)); omega
        · exact Nat.zero_le _
  rw [List.length_cons]
  have := key (n - 1) p (fr0 n p wo) thr
  unfold webL
  omega
/-- the i-th of a row -/
def rowA (R : List Nat) (i : Nat) : Int32 := enc (R[i]?)
def webV (x y : Nat → Nat) (n hun thr : Nat) (hid : Int32) (p l i : Nat) : Int32 := if bt hid p = true then -3 else rowA (p :: webL x y n hun thr l p hid) i
theorem row_get {X : Nat → Int32} {R : List Nat} {s : Int32} {i N : Nat} {g : Hp} (hR : RowAt X R) (hs : s = nI R.length) (hl : R.length ≤ N) (hN : N < 2 ^ 31) (hi : i < 2 ^ 31) : (if s ≤ nI i then some ((-1 : Int32), g) else chk N (nI i) (some (X (ix (nI i)), g))) = some (rowA R i, g) := by
  rw [hs, ix_nI hi]
  unfold rowA
  by_cases h1 : i < R.length
  · rw [if_neg (nI_ge h1 (by omega)), chk_nI (by omega) hN, List.getElem?_eq_getElem h1]
    rw [hR i R[i] (List.getElem?_eq_getElem h1)]; rfl
  · rw [if_pos (nI_le (by omega) hi), List.getElem?_eq_none (by omega)]; rfl
theorem inN_lt (u : Int32) {k : Nat} (hk : k < 2 ^ 31) : (¬ u < 0 ∧ u < nI k) ↔ inN u k = true := by
  have e0 : (0 : Int32).toInt = 0 := by decide
  simp only [lt_iff, e0, nI_toInt hk, inN, decide_eq_true_eq]; omega
theorem C_webP (c : Ctx h n x y thr hun rea hid flt) {p l i : Nat} (hp : p < n) (hl : l < 4) (hi : i < 10) : Ans (f_C_web (nI p) (nI l) (nI i)) (webV x y n hun thr hid p l i) h := by
  have hn := c.1.1
  unfold Ans f_C_web
  rw [C_can c, inN_nI hp (by omega), inN_nI hl (by omega), bnd_some, if_neg (by decide), if_neg (nI_pos (by omega)), if_pos (lt10 hi), C_isHidden c (by omega), bnd_some]
  unfold webV
  cases hb : bt hid p with
  | true => exact ⟨h, rfl, Same.rf h⟩
  | false =>
    obtain ⟨h', g1, g2, g3, g4⟩ := C_layS c (Or.inl rfl) hp hl hid
    rw [if_pos (by decide), show ∀ o : Option (Int32 × Hp), chk 4 0 o = o from fun o => rfl, c.2.1.2.2.1, g1, bnd_some, row_get (N := 10) g2.2.1 g2.1 (Nat.le_trans (webL_len hn hp) hn) (by omega) (by omega)]
    exact ⟨h', rfl, g4⟩
theorem M_webOf (c : Ctx h n x y thr hun rea hid flt) (hM : MP h n x y) {p l i : Nat} (hp : p < n) (hl : l < 4) (hi : i < 10) : AnsM n x y (f_M_webOf (nI p) (nI l) (nI i)) (webV x y n hun thr hid p l i) h := by
  have hn := c.1.1
  unfold AnsM f_M_webOf
  rw [M_isHidden c (by omega), bnd_some]
  unfold webV
  cases hb : bt hid p with
  | true => exact ⟨h, rfl, Same.rf h, hM⟩
  | false =>
    obtain ⟨h', g1, g2, g3, g4, g5, g6⟩ := M_layS c hM hp hl hid
    rw [if_pos (by decide), c.2.2.1.1, g1, bnd_some, row_get (N := 11) g2.2.1 g2.1 (Nat.le_trans (webL_len hn hp) (by omega)) (by omega) (by omega)]
    exact ⟨h', rfl, g4, g5⟩
end OPS
theorem op_web (x1 x2 x3 : Int32) : OpOK Rel (f_C_web x1 x2 x3) (f_M_web x1 x2 x3) := by
  refine op_of (fun h n x y thr hun rea hid flt c => ?_)
  have hn := c.1.1
  by_cases hb : (inN x1 n && inN x2 4) = true
  · obtain ⟨b1, b2⟩ := Bool.and_eq_true_iff.mp hb
    obtain ⟨p, hp, rfl⟩ := inN_ex b1 (by omega)
    obtain ⟨l, hl, rfl⟩ := inN_ex b2 (by omega)
    by_cases h3 : inN x3 10 = true
    · obtain ⟨i, hi, rfl⟩ := inN_ex h3 (by omega)
      refine ⟨_, C_webP c hp hl hi, fun g cg => ?_⟩
      obtain ⟨h1, g1, g2, g3, g4⟩ := M_isWeb cg (nI p) (nI l)
      obtain ⟨h2, k1, k2, k3⟩ := M_webOf g4 g3 hp hl hi
      refine ⟨h2, ?_, g2.tr k2⟩
      unfold f_M_web
      rw [g1, hb, bnd_some, if_neg (by decide), M_isTen, h3, bnd_some, if_neg (by decide), k1, bnd_some]
    · refine ⟨-2, ⟨h, ?_, Same.rf h⟩, fun g cg => ?_⟩
      · unfold f_C_web
        rw [C_can c, hb, bnd_some, if_neg (by decide)]
        by_cases q : x3 < 0
        · rw [if_pos q]
        · rw [if_neg q, if_neg (show ¬ x3 < 10 from fun z => h3 ((inN_lt x3 (k := 10) (by omega)).mp ⟨q, z⟩))]
      · obtain ⟨h1, g1, g2, g3, g4⟩ := M_isWeb cg (nI p) (nI l)
        refine ⟨h1, ?_, g2⟩
        unfold f_M_web
        rw [g1, hb, bnd_some, if_neg (by decide), M_isTen, bnd_some, if_neg h3, if_pos rfl]
  · refine ⟨-2, ⟨h, ?_, Same.rf h⟩, fun g cg => ?_⟩
    · unfold f_C_web
      rw [C_can c, bnd_some, if_neg hb, if_pos rfl]
    · obtain ⟨h1, g1, g2, g3, g4⟩ := M_isWeb cg x1 x2
      refine ⟨h1, ?_, g2⟩
      unfold f_M_web
      rw [g1, bnd_some, if_neg hb, if_pos rfl]
