/-! PURE: more -/
def plus (x : Nat → Nat) (n u : Nat) : Nat → Nat := fun k => if k = n then u else x k
theorem plus_ne {x : Nat → Nat} {n u k : Nat} (h : k < n) : plus x n u k = x k := if_neg (by omega)
theorem plus_eq {x : Nat → Nat} {n u : Nat} : plus x n u n = u := if_pos rfl
def takN (x y : Nat → Nat) (u v n : Nat) : Bool := tak (fun k => nI (x k)) (fun k => nI (y k)) (nI u) (nI v) n
theorem plus_dist {x y : Nat → Nat} {n u v : Nat} (hD : Dist n x y) (hu : u < 10) (hv : v < 10) (ht : takN x y u v n = false) : Dist (n + 1) (plus x n u) (plus y n v) := by
  have no : ∀ i, i < n → x i = u → y i = v → False := fun i hi e1 e2 => tak_f ht i hi ⟨congrArg nI e1, congrArg nI e2⟩
  refine ⟨fun i hi => ?_, fun i j hi hj e1 e2 => ?_⟩
  · by_cases e : i = n
    · subst e; rw [plus_eq, plus_eq]; exact ⟨hu, hv⟩
    · rw [plus_ne (by omega), plus_ne (by omega)]; exact hD.1 i (by omega)
  · by_cases ei : i = n
    · by_cases ej : j = n
      · omega
      · rw [ei, plus_eq, plus_ne (by omega)] at e1 e2
        exact (no j (by omega) e1.symm e2.symm).elim
    · by_cases ej : j = n
      · rw [ej, plus_eq, plus_ne (by omega)] at e1 e2
        exact (no i (by omega) e1 e2).elim
      · rw [plus_ne (by omega), plus_ne (by omega)] at e1 e2
        exact hD.2 i j (by omega) (by omega) e1 e2
theorem PtR.plus {X Y : Nat → Int32} {n u v : Nat} {x y : Nat → Nat} (h : PtR X Y n x y) : PtR X Y n (plus x n u) (plus y n v) := by
  intro i hi
  rw [plus_ne hi, plus_ne hi]; exact h i hi
theorem PtR.tak {X Y : Nat → Int32} {n u v : Nat} {x y : Nat → Nat} (h : PtR X Y n x y) : tak X Y (nI u) (nI v) n = takN x y u v n := tak_congr (fun k hk => ⟨(h k hk).1, (h k hk).2.1⟩)
section MO
variable {h : Hp} {n : Nat} {x y : Nat → Nat} {thr hun rea : Nat} {hid flt : Int32}
def morV (x y : Nat → Nat) (n hun thr : Nat) (hid : Int32) (p l u v : Nat) : Int32 := if bt hid p = true then -3 else if n = 10 then -3 else if takN x y u v n = true then -3 else nI (wayL (plus x n u) (plus y n v) p (webL (plus x n u) (plus y n v) (n + 1) hun thr l p hid))
theorem C_moreP (c : Ctx h n x y thr hun rea hid flt) {p l u v : Nat} (hp : p < n) (hl : l < 4) (hu : u < 10) (hv : v < 10) : Ans (f_C_more (nI p) (nI l) (nI u) (nI v)) (morV x y n hun thr hid p l u v) h := by
  have hn := c.1.1
  unfold Ans f_C_more
  rw [C_can c, inN_nI hp (by omega), inN_nI hl (by omega), bnd_some, if_neg (by decide), if_neg (nI_pos (by omega)), if_neg (nle10 hu), if_neg (nI_pos (by omega)), if_pos (lt10 hv), C_isHidden c (by omega), bnd_some]
  unfold morV
  cases hb : bt hid p with
  | true => exact ⟨h, by rw [if_neg (by decide), if_pos rfl], Same.rf h⟩
  | false =>
    rw [if_pos (show (if false = true then (1 : Int32) else 0) = 0 by decide), if_neg (show ¬ false = true by decide), c.2.1.1]
    by_cases h10 : n = 10
    · rw [if_pos (show (10 : Int32) ≤ nI n from nI_le (a := 10) (by omega) (by omega)), if_pos h10]
      exact ⟨h, rfl, Same.rf h⟩
    · rw [if_neg (show ¬ (10 : Int32) ≤ nI n from nle10 (by omega)), if_neg h10, Fr_isTaken hn c.2.1.1, bnd_some, show tak (h (3 + 1)) (h (3 + 2)) (nI u) (nI v) n = takN x y u v n from c.2.1.2.1.tak]
      cases ht : takN x y u v n with
      | true => exact ⟨h, rfl, Same.rf h⟩
      | false =>
        obtain ⟨h1, a1, a2, a3, a4⟩ := Fr_become hn c.2.1.1 c.2.1.2.1
        have a4' : PtR (h1 7) (h1 8) n (plus x n u) (plus y n v) := a4.plus
        have f2 := a2.tr (add6f (h := h1) (k := n) (u := nI u) (v := nI v) (w := nI (n + 1)))
        have P2 := add6 (h := h1) a4' hu hv plus_eq plus_eq
        have s2 := Same.of rfl f2
        have c2 := c.same s2
        obtain ⟨h3, d1, d2, d3⟩ := C_lay (a1 := 15) (a2 := 6) (wo := hid) (h := hset (hset (hset h1 7 n (nI u)) 8 n (nI v)) 6 2 (nI (n + 1))) (n := n + 1) (peg := p) (by omega) hl c.1.2.2.2.1 c.1.2.2.1 (plus_dist c.1.2.1 hu hv ht).1 (by omega) (by omega) P2 (hset_eq _ _ _ _) c2.2.1.2.2.2.2.1 c2.2.1.2.2.2.1
        refine ⟨h3, ?_, s2.tr (Same.sp (Or.inl rfl) d3)⟩
        rw [if_pos (show (if false = true then (1 : Int32) else 0) = 0 by decide), if_neg (show ¬ false = true by decide), a1, bnd_some, Fr_add (by omega) a3, bnd_some, chk40, show (6 : Nat) + 1 = 7 from rfl, show (6 : Nat) + 2 = 8 from rfl, c2.2.1.2.2.1, d1, bnd_some, d2.2.2.1]
theorem M_moreOf (c : Ctx h n x y thr hun rea hid flt) (hM : MP h n x y) {p l u v : Nat} (hp : p < n) (hl : l < 4) (hu : u < 10) (hv : v < 10) : AnsM n x y (f_M_moreOf (nI p) (nI l) (nI u) (nI v)) (morV x y n hun thr hid p l u v) h := by
  have hn := c.1.1
  unfold AnsM f_M_moreOf
  rw [M_isHidden c (by omega), bnd_some]
  unfold morV
  cases hb : bt hid p with
  | true => exact ⟨h, by rw [if_neg (by decide), if_pos rfl], Same.rf h, hM⟩
  | false =>
    rw [if_pos (show (if false = true then (1 : Int32) else 0) = 0 by decide), if_neg (show ¬ false = true by decide), hM.1]
    by_cases h10 : n = 10
    · subst h10
      exact ⟨h, rfl, Same.rf h, hM⟩
    · rw [if_neg (show ¬ nI n = 10 from fun z => h10 (nI_inj (a := n) (b := 10) (by omega) (by omega) z)), if_neg h10, M_isTaken (by omega), bnd_some, hM.2.tak]
      cases ht : takN x y u v n with
      | true => exact ⟨h, rfl, Same.rf h, hM⟩
      | false =>
        have a1 : hset h 33 n (nI u) 31 2 = nI n := by rw [hset_ne (by omega)]; exact hM.1
        have a2 : hset (hset h 33 n (nI u)) 34 n (nI v) 31 2 = nI n := by rw [hset_ne (by omega)]; exact a1
        rw [if_pos (show (if false = true then (1 : Int32) else 0) = 0 by decide), if_neg (show ¬ false = true by decide), hM.1, chk_nI (by omega) (by omega), ix_nI (by omega), a1, chk_nI (by omega) (by omega), ix_nI (by omega), a2, nI_1]
        have e33 : (hset (hset (hset h 33 n (nI u)) 34 n (nI v)) 31 2 (nI (n + 1))) 33 = upd (h 33) n (nI u) := funext fun i => by rw [hset_ne (by omega), hset_ne (by omega), hrow]
        have e34 : (hset (hset (hset h 33 n (nI u)) 34 n (nI v)) 31 2 (nI (n + 1))) 34 = upd (h 34) n (nI v) := funext fun i => by rw [hset_ne (by omega), hrow, show hset h 33 n (nI u) 34 = h 34 from funext fun i => hset_ne (by omega)]
        have e31 : (hset (hset (hset h 33 n (nI u)) 34 n (nI v)) 31 2 (nI (n + 1))) 31 2 = nI (n + 1) := hset_eq _ _ _ _
        have s1 : Same h (hset (hset (hset h 33 n (nI u)) 34 n (nI v)) 31 2 (nI (n + 1))) := by
          intro a k hs
          have q1 : a ≠ 33 := by rintro rfl; cases hs
          have q2 : a ≠ 34 := by rintro rfl; cases hs
          have q3 : a ≠ 31 ∨ k ≠ 2 := by
            by_cases e : a = 31
            · right; rintro rfl; subst e; cases hs
            · exact Or.inl e
          rw [hset_ne q3, hset_ne (Or.inl q2), hset_ne (Or.inl q1)]
        generalize hset (hset (hset h 33 n (nI u)) 34 n (nI v)) 31 2 (nI (n + 1)) = g at e33 e34 e31 s1
        have cg := c.same s1
        obtain ⟨h2, d1, d2, d3⟩ := M_lays (wo := hid) (h := g) (n := n + 1) (peg := p) (by omega) hl c.1.2.2.2.1 c.1.2.2.1 (plus_dist c.1.2.1 hu hv ht) (by omega) (by rw [e33, e34]; exact (hM.2.plus (u := u) (v := v)).push hu hv plus_eq plus_eq) e31 cg.2.2.1.2.2.1 cg.2.2.1.2.1
        have f2 : h2 31 2 = nI (n + 1) := by rw [d3.2 2 (by omega) (by omega) (by omega)]; exact e31
        rw [cg.2.2.1.1, d1, bnd_some, f2, show nI (n + 1) - 1 = nI n from by rw [← nI_1]; simp]
        refine ⟨hset h2 31 2 (nI n), ?_, (s1.tr (Same.mfr d3)).tr ?_, ?_⟩
        · rw [hset_ne (by omega), d2.2.2.1]
        · intro a k hs
          rw [hset_ne]
          by_cases e : a = 31
          · right; rintro rfl; subst e; cases hs
          · exact Or.inl e
        · refine ⟨hset_eq _ _ _ _, ?_⟩
          rw [show hset h2 31 2 (nI n) 33 = h2 33 from funext fun i => hset_ne (by omega), show hset h2 31 2 (nI n) 34 = h2 34 from funext fun i => hset_ne (by omega), d3.1 33 (by omega) (by omega), d3.1 34 (by omega) (by omega), e33, e34]
          intro i hi
          have := hM.2 i hi
          have ne : i ≠ n := by omega
          exact ⟨by simp [upd, ne]; exact this.1, by simp [upd, ne]; exact this.2.1, this.2.2⟩
end MO
theorem op_more (x1 x2 x3 x4 : Int32) : OpOK Rel (f_C_more x1 x2 x3 x4) (f_M_more x1 x2 x3 x4) := by
  refine op_of (fun h n x y thr hun rea hid flt c => ?_)
  have hn := c.1.1
  by_cases hb : (inN x1 n && inN x2 4) = true
  · obtain ⟨b1, b2⟩ := Bool.and_eq_true_iff.mp hb
    obtain ⟨p, hp, rfl⟩ := inN_ex b1 (by omega)
    obtain ⟨l, hl, rfl⟩ := inN_ex b2 (by omega)
    have n10 : ∀ w : Int32, ¬ inN w 10 = true → w < 0 ∨ 10 ≤ w ∧ ¬ w < 10 := by
      intro w hw
      by_cases q : w < 0
      · exact Or.inl q
      · have : ¬ w < 10 := fun z => hw ((inN_lt w (k := 10) (by omega)).mp ⟨q, z⟩)
        exact Or.inr ⟨by rw [lt_iff] at this; rw [le_iff]; omega, this⟩
    by_cases h3 : inN x3 10 = true
    · obtain ⟨u, hu, rfl⟩ := inN_ex h3 (by omega)
      by_cases h4 : inN x4 10 = true
      · obtain ⟨v, hv, rfl⟩ := inN_ex h4 (by omega)
        refine ⟨_, C_moreP c hp hl hu hv, fun g cg => ?_⟩
        obtain ⟨h1, g1, g2, g3, g4⟩ := M_isWeb cg (nI p) (nI l)
        obtain ⟨h2, k1, k2, k3⟩ := M_moreOf g4 g3 hp hl hu hv
        refine ⟨h2, ?_, g2.tr k2⟩
        unfold f_M_more
        rw [g1, hb, bnd_some, if_neg (by decide), M_isTen, h3, bnd_some, if_neg (by decide), M_isTen, h4, bnd_some, if_neg (by decide), k1, bnd_some]
      · refine ⟨-2, ⟨h, ?_, Same.rf h⟩, fun g cg => ?_⟩
        · unfold f_C_more
          rw [C_can c, hb, bnd_some, if_neg (by decide), if_neg (nI_pos (by omega)), if_neg (nle10 hu)]
          rcases n10 x4 h4 with q | ⟨-, q⟩
          · rw [if_pos q]
          · rw [if_neg q, ite_self]
        · obtain ⟨h1, g1, g2, g3, g4⟩ := M_isWeb cg (nI p) (nI l)
          refine ⟨h1, ?_, g2⟩
          unfold f_M_more
          rw [g1, hb, bnd_some, if_neg (by decide), M_isTen, h3, bnd_some, if_neg (by decide), M_isTen, bnd_some, if_neg h4, if_pos rfl]
    · refine ⟨-2, ⟨h, ?_, Same.rf h⟩, fun g cg => ?_⟩
      · unfold f_C_more
        rw [C_can c, hb, bnd_some, if_neg (by decide)]
        rcases n10 x3 h3 with q | ⟨q, -⟩
        · rw [if_pos q]
        · rw [if_pos q, ite_self]
      · obtain ⟨h1, g1, g2, g3, g4⟩ := M_isWeb cg (nI p) (nI l)
        refine ⟨h1, ?_, g2⟩
        unfold f_M_more
        rw [g1, hb, bnd_some, if_neg (by decide), M_isTen, bnd_some, if_neg h3, if_pos rfl]
  · refine ⟨-2, ⟨h, ?_, Same.rf h⟩, fun g cg => ?_⟩
    · unfold f_C_more
      rw [C_can c, bnd_some, if_neg hb, if_pos rfl]
    · obtain ⟨h1, g1, g2, g3, g4⟩ := M_isWeb cg x1 x2
      refine ⟨h1, ?_, g2⟩
      unfold f_M_more
      rw [g1, bnd_some, if_neg hb, if_pos rfl]
