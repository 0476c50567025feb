/-! PURE: begin, fault, peg, far -/
section OPS
variable {h : Hp} {n : Nat} {x y : Nat → Nat} {thr hun rea : Nat} {hid flt : Int32}
def begS (x y : Nat → Nat) (n hun thr : Nat) (hid : Int32) (l : Nat) (k : Nat) (s : Int32 × Int32 × Int32) : Int32 × Int32 × Int32 :=
  if bt hid k = true then s else if s.2.1 < nI (rowP x y n hun thr hid k l).length then (nI k, nI (rowP x y n hun thr hid k l).length, nI (wayL x y k (webL x y n hun thr l k hid)))
    else if nI (rowP x y n hun thr hid k l).length = s.2.1 then (if s.2.2 ≤ nI (wayL x y k (webL x y n hun thr l k hid)) then s else (nI k, nI (rowP x y n hun thr hid k l).length, nI (wayL x y k (webL x y n hun thr l k hid)))) else s
def begV (x y : Nat → Nat) (n hun thr : Nat) (hid : Int32) (l : Nat) : Int32 := (itr (begS x y n hun thr hid l) n 0 (-1, 0, 0)).1
theorem ite_app {α β : Type} {c : Prop} [Decidable c] (f : α → β) (a b : α) : f (if c then a else b) = if c then f a else f b := by split <;> rfl
theorem C_beginP (c : Ctx h n x y thr hun rea hid flt) {l : Nat} (hl : l < 4) : Ans (f_C_begin (nI l)) (begV x y n hun thr hid l) h := by
  have hn := c.1.1
  unfold Ans f_C_begin
  rw [C_isLaw, inN_nI hl (by omega), bnd_some, if_neg (by decide)]
  refine (itr_loop (F := fun m s i h => l_C_begin_20 m (nI l) s.1 s.2.1 s.2.2 i h) (I := fun h => Ctx h n x y thr hun rea hid flt) (n := n) (res := fun s : Int32 × Int32 × Int32 => s.1) (st := begS x y n hun thr hid l) ?_ ?_ n 0 (-1, 0, 0) FUEL h (by omega) (by unfold FUEL; omega) c).elim (fun h' q => ⟨h', q.1, q.2.1⟩)
  · intro m s h c
    show l_C_begin_20 (m + 1) _ _ _ _ _ _ = _
    rw [l_C_begin_20, c.2.1.1, if_pos (nI_le (Nat.le_refl _) (by omega))]
  · intro m k s h hk c
    show ∃ h', l_C_begin_20 (m + 1) _ _ _ _ _ _ = l_C_begin_20 m _ _ _ _ _ _ ∧ _
    rw [l_C_begin_20, c.2.1.1, if_neg (nI_ge hk (by omega)), C_isHidden c (by omega), bnd_some, nI_1]
    unfold begS
    cases hb : bt hid k with
    | true => exact ⟨h, rfl, Same.rf h, c⟩
    | false =>
      obtain ⟨h', g1, g2, g3, g4⟩ := C_layS c (Or.inl rfl) hk hl hid
      rw [if_pos (by decide), chk40, c.2.1.2.2.1, g1, bnd_some, g2.1, g2.2.2.1]
      refine ⟨h', ?_, g4, c.same g4⟩
      rw [if_neg (show ¬ false = true by decide)]
      split
      · rfl
      · split
        · split <;> rfl
        · rfl
theorem M_beginOf (c : Ctx h n x y thr hun rea hid flt) {l : Nat} (hl : l < 4) : AnsM n x y (f_M_beginOf (nI l)) (begV x y n hun thr hid l) h := by
  have hn := c.1.1
  unfold AnsM f_M_beginOf
  obtain ⟨h0, a1, a2, a3, a4⟩ := c.fault
  rw [a1, bnd_some]
  refine (itr_loop (F := fun m s i h => l_M_beginOf_16 m (nI l) s.1 s.2.1 s.2.2 i h) (I := fun h => Ctx h n x y thr hun rea hid flt ∧ MP h n x y) (n := n) (res := fun s : Int32 × Int32 × Int32 => s.1) (st := begS x y n hun thr hid l) ?_ ?_ n 0 (-1, 0, 0) FUEL h0 (by omega) (by unfold FUEL; omega) ⟨a4, a3⟩).elim (fun h' q => ⟨h', q.1, a2.tr q.2.1, q.2.2.2⟩)
  · intro m s h c
    show l_M_beginOf_16 (m + 1) _ _ _ _ _ _ = _
    rw [l_M_beginOf_16, c.2.1, if_pos (nI_le (Nat.le_refl _) (by omega))]
  · intro m k s h hk cc
    obtain ⟨c, hM⟩ := cc
    show ∃ h', l_M_beginOf_16 (m + 1) _ _ _ _ _ _ = l_M_beginOf_16 m _ _ _ _ _ _ ∧ _
    rw [l_M_beginOf_16, hM.1, if_neg (nI_ge hk (by omega)), M_isHidden c (by omega), bnd_some, nI_1]
    unfold begS
    cases hb : bt hid k with
    | true => exact ⟨h, rfl, Same.rf h, c, hM⟩
    | false =>
      obtain ⟨h', g1, g2, g3, g4, g5, g6⟩ := M_layS c hM hk hl hid
      rw [if_pos (by decide), c.2.2.1.1, g1, bnd_some, g2.1, g2.2.2.1]
      refine ⟨h', ?_, g4, g6, g5⟩
      rw [if_neg (show ¬ false = true by decide)]
      split
      · rfl
      · split
        · split <;> rfl
        · rfl
end OPS
theorem op_begin (x1 : Int32) : OpOK Rel (f_C_begin x1) (f_M_begin x1) := by
  refine op_of (fun h n x y thr hun rea hid flt c => ?_)
  by_cases hb : inN x1 4 = true
  · obtain ⟨l, hl, rfl⟩ := inN_ex hb (by omega)
    refine ⟨_, C_beginP c hl, fun g cg => ?_⟩
    obtain ⟨h2, k1, k2, k3⟩ := M_beginOf cg hl
    refine ⟨h2, ?_, k2⟩
    unfold f_M_begin
    rw [M_isLaw, hb, bnd_some, if_neg (by decide), k1, bnd_some]
  · refine ⟨-2, ⟨h, ?_, Same.rf h⟩, fun g cg => ⟨g, ?_, Same.rf g⟩⟩
    · unfold f_C_begin
      rw [C_isLaw, bnd_some, if_neg hb, if_pos rfl]
    · unfold f_M_begin
      rw [M_isLaw, bnd_some, if_neg hb, if_pos rfl]
theorem op_fault : OpOK Rel f_C_fault f_M_fault := by
  refine op_of (fun h n x y thr hun rea hid flt c => ⟨flt, ⟨h, ?_, Same.rf h⟩, fun g cg => ?_⟩)
  · unfold f_C_fault; rw [c.2.1.2.2.2.2.2.2]
  · obtain ⟨h1, a1, a2, a3, a4⟩ := cg.fault
    refine ⟨h1, ?_, a2⟩
    unfold f_M_fault
    rw [a1, bnd_some]
theorem op_far (x1 x2 : Int32) : OpOK Rel (f_C_far x1 x2) (f_M_far x1 x2) := by
  refine op_of (fun h n x y thr hun rea hid flt c => ?_)
  have hn := c.1.1
  by_cases h1 : inN x1 n = true
  · by_cases h2 : inN x2 n = true
    · obtain ⟨p, hp, rfl⟩ := inN_ex h1 (by omega)
      obtain ⟨q, hq, rfl⟩ := inN_ex h2 (by omega)
      refine ⟨nI (farN x y p q), ⟨h, ?_, Same.rf h⟩, fun g cg => ?_⟩
      · unfold f_C_far
        rw [Fr_has _ c.2.1.1 hn, h1, bnd_some, if_neg (by decide), Fr_has _ c.2.1.1 hn, h2, bnd_some, if_neg (by decide), Fr_apart c.2.1.2.1 hn hp hq, bnd_some]
      · obtain ⟨h1', a1, a2, a3, a4⟩ := cg.isPeg (nI p)
        obtain ⟨h2', b1, b2, b3, b4⟩ := a4.isPeg (nI q)
        refine ⟨h2', ?_, a2.tr b2⟩
        unfold f_M_far
        rw [a1, h1, bnd_some, if_neg (by decide), b1, h2, bnd_some, if_neg (by decide), M_farOf b3.2 (by omega) hp hq, bnd_some]
    · refine ⟨-2, ⟨h, ?_, Same.rf h⟩, fun g cg => ?_⟩
      · unfold f_C_far
        rw [Fr_has _ c.2.1.1 hn, h1, bnd_some, if_neg (by decide), Fr_has _ c.2.1.1 hn, bnd_some, if_neg h2, if_pos rfl]
      · obtain ⟨h1', a1, a2, a3, a4⟩ := cg.isPeg x1
        obtain ⟨h2', b1, b2, b3, b4⟩ := a4.isPeg x2
        refine ⟨h2', ?_, a2.tr b2⟩
        unfold f_M_far
        rw [a1, h1, bnd_some, if_neg (by decide), b1, bnd_some, if_neg h2, if_pos rfl]
  · refine ⟨-2, ⟨h, ?_, Same.rf h⟩, fun g cg => ?_⟩
    · unfold f_C_far
      rw [Fr_has _ c.2.1.1 hn, bnd_some, if_neg h1, if_pos rfl]
    · obtain ⟨h1', a1, a2, a3, a4⟩ := cg.isPeg x1
      refine ⟨h1', ?_, a2⟩
      unfold f_M_far
      rw [a1, bnd_some, if_neg h1, if_pos rfl]
theorem n3 {u : Int32} : inN u 3 = true ↔ u = 0 ∨ u = 1 ∨ u = 2 := by
  have e0 : (0 : Int32).toInt = 0 := by decide
  have e1 : (1 : Int32).toInt = 1 := by decide
  have e2 : (2 : Int32).toInt = 2 := by decide
  simp only [eq_iff, e0, e1, e2, inN, decide_eq_true_eq]; omega
theorem op_peg (x1 x2 : Int32) : OpOK Rel (f_C_peg x1 x2) (f_M_peg x1 x2) := by
  refine op_of (fun h n x y thr hun rea hid flt c => ?_)
  have hn := c.1.1
  by_cases h1 : inN x1 n = true
  · obtain ⟨p, hp, rfl⟩ := inN_ex h1 (by omega)
    obtain ⟨u1, u2, -, -⟩ := c.2.1.2.1 p hp
    by_cases h2 : inN x2 3 = true
    · refine ⟨if x2 = 0 then nI (x p) else if x2 = 1 then nI (y p) else if bt hid p = true then 1 else 0, ⟨h, ?_, Same.rf h⟩, fun g cg => ?_⟩
      · unfold f_C_peg
        rw [Fr_has _ c.2.1.1 hn, h1, bnd_some, if_neg (by decide), chk_nI (by omega) (by omega), chk_nI (by omega) (by omega), ix_nI (by omega), u1, u2, C_isHidden c (by omega), bnd_some]
        by_cases q0 : x2 = 0
        · rw [if_pos q0, if_pos q0]
        · rw [if_neg q0, if_neg q0]
          by_cases q1 : x2 = 1
          · rw [if_pos q1, if_pos q1]
          · rw [if_neg q1, if_neg q1]
            have q2 : x2 = 2 := by rcases n3.mp h2 with z | z | z <;> first | exact absurd z q0 | exact absurd z q1 | exact z
            rw [if_pos q2]
            cases bt hid p <;> rfl
      · obtain ⟨h1', a1, a2, a3, a4⟩ := cg.isPeg (nI p)
        obtain ⟨w1, w2, -, -⟩ := a3.2 p hp
        refine ⟨h1', ?_, a2⟩
        unfold f_M_peg f_M_pegOf
        rw [a1, h1, bnd_some, if_neg (by decide), show f_M_in x2 0 2 h1' = _ from in_lit x2 (n := 2) (by omega) h1', h2, bnd_some, if_neg (by decide), chk_nI (by omega) (by omega), chk_nI (by omega) (by omega), ix_nI (by omega), w1, w2, a4.2.2.1.1, bt_shr hid (by omega)]
        split
        · rfl
        · split <;> rfl
    · refine ⟨-2, ⟨h, ?_, Same.rf h⟩, fun g cg => ?_⟩
      · unfold f_C_peg
        rw [Fr_has _ c.2.1.1 hn, h1, bnd_some, if_neg (by decide), if_neg (fun z => h2 (n3.mpr (Or.inl z))), if_neg (fun z => h2 (n3.mpr (Or.inr (Or.inl z)))), if_neg (fun z => h2 (n3.mpr (Or.inr (Or.inr z))))]
      · obtain ⟨h1', a1, a2, a3, a4⟩ := cg.isPeg (nI p)
        refine ⟨h1', ?_, a2⟩
        unfold f_M_peg
        rw [a1, h1, bnd_some, if_neg (by decide), show f_M_in x2 0 2 h1' = _ from in_lit x2 (n := 2) (by omega) h1', bnd_some, if_neg h2, if_pos rfl]
  · refine ⟨-2, ⟨h, ?_, Same.rf h⟩, fun g cg => ?_⟩
    · unfold f_C_peg
      rw [Fr_has _ c.2.1.1 hn, bnd_some, if_neg h1, if_pos rfl]
    · obtain ⟨h1', a1, a2, a3, a4⟩ := cg.isPeg x1
      refine ⟨h1', ?_, a2⟩
      unfold f_M_peg
      rw [a1, bnd_some, if_neg h1, if_pos rfl]
