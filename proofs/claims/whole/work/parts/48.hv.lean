/-! PURE: values that depend on the state alone -/
def HV {ρ : Type} (fc fm : Hp → Option (ρ × Hp)) : Prop := ∀ h n x y thr hun rea hid flt, Ctx h n x y thr hun rea hid flt → ∃ v, Ans fc v h ∧ ∀ g, Ctx g n x y thr hun rea hid flt → Ans fm v g
theorem HV.one {ρ : Type} {fc fm : Hp → Option (ρ × Hp)} (H : HV fc fm) {h : Hp} {n : Nat} {x y : Nat → Nat} {thr hun rea : Nat} {hid flt : Int32} (c : Ctx h n x y thr hun rea hid flt) : ∃ v, (∀ g, Ctx g n x y thr hun rea hid flt → Ans fc v g) ∧ ∀ g, Ctx g n x y thr hun rea hid flt → Ans fm v g := by
  obtain ⟨v, -, a2⟩ := H h n x y thr hun rea hid flt c
  refine ⟨v, fun g cg => ?_, a2⟩
  obtain ⟨w, b1, b2⟩ := H g n x y thr hun rea hid flt cg
  obtain ⟨k1, e1, -⟩ := a2 g cg
  obtain ⟨k2, e2, -⟩ := b2 g cg
  rw [e1] at e2
  cases e2
  exact b1
theorem hv_pieces (x1 x2 x3 : Int32) : HV (f_C_pieces x1 x2 x3) (f_M_pieces x1 x2 x3) := by
  intro h n x y thr hun rea hid flt c
  have hn := c.1.1
  by_cases hb : (inN x1 n && inN x2 4) = true
  · obtain ⟨b1, b2⟩ := Bool.and_eq_true_iff.mp hb
    obtain ⟨p, hp, rfl⟩ := inN_ex b1 (by omega)
    obtain ⟨l, hl, rfl⟩ := inN_ex b2 (by omega)
    by_cases h3 : inN x3 n = true
    · refine ⟨_, C_piecesP c hp hl h3, fun g cg => ?_⟩
      obtain ⟨h1, g1, g2, g3, g4⟩ := M_isWeb cg (nI p) (nI l)
      obtain ⟨h1b, r1, r2, r3, r4⟩ := g4.isPeg x3
      obtain ⟨h2, k1, k2, k3⟩ := M_piecesOf r4 r3 x3 hp hl
      refine ⟨h2, ?_, (g2.tr r2).tr k2⟩
      unfold f_M_pieces
      rw [g1, hb, bnd_some, if_neg (by decide), r1, h3, bnd_some, if_neg (by decide), k1, bnd_some]
    · refine ⟨-2, ⟨h, ?_, Same.rf h⟩, fun g cg => ?_⟩
      · unfold f_C_pieces
        rw [C_can c, hb, bnd_some, if_neg (by decide)]
        rw [Fr_has x3 c.2.1.1 hn, bnd_some, if_neg h3, if_pos rfl]
      · obtain ⟨h1, g1, g2, g3, g4⟩ := M_isWeb cg (nI p) (nI l)
        obtain ⟨h1b, r1, r2, r3, r4⟩ := g4.isPeg x3
        refine ⟨h1b, ?_, g2.tr r2⟩
        unfold f_M_pieces
        rw [g1, hb, bnd_some, if_neg (by decide), r1, bnd_some, if_neg h3, if_pos rfl]
  · refine ⟨-2, ⟨h, ?_, Same.rf h⟩, fun g cg => ?_⟩
    · unfold f_C_pieces
      rw [C_can c, bnd_some, if_neg hb, if_pos rfl]
    · obtain ⟨h1, g1, g2, g3, g4⟩ := M_isWeb cg x1 x2
      refine ⟨h1, ?_, g2⟩
      unfold f_M_pieces
      rw [g1, bnd_some, if_neg hb, if_pos rfl]
theorem hv_more (x1 x2 x3 x4 : Int32) : HV (f_C_more x1 x2 x3 x4) (f_M_more x1 x2 x3 x4) := by
  intro h n x y thr hun rea hid flt c
  have hn := c.1.1
  by_cases hb : (inN x1 n && inN x2 4) = true
  · obtain ⟨b1, b2⟩ := Bool.and_eq_true_iff.mp hb
    obtain ⟨p, hp, rfl⟩ := inN_ex b1 (by omega)
    obtain ⟨l, hl, rfl⟩ := inN_ex b2 (by omega)
    have n10 : ∀ w : Int32, ¬ inN w 10 = true → w < 0 ∨ 10 ≤ w ∧ ¬ w < 10 := by
      intro w hw
      by_cases q : w < 0
      · exact Or.inl q
      · have : ¬ w < 10 := fun z => hw ((inN_lt w (k := 10) (by omega)).mp ⟨q, z⟩)
        exact Or.inr ⟨by rw [lt_iff] at this; rw [le_iff]; omega, this⟩
    by_cases h3 : inN x3 10 = true
    · obtain ⟨u, hu, rfl⟩ := inN_ex h3 (by omega)
      by_cases h4 : inN x4 10 = true
      · obtain ⟨v, hv, rfl⟩ := inN_ex h4 (by omega)
        refine ⟨_, C_moreP c hp hl hu hv, fun g cg => ?_⟩
        obtain ⟨h1, g1, g2, g3, g4⟩ := M_isWeb cg (nI p) (nI l)
        obtain ⟨h2, k1, k2, k3⟩ := M_moreOf g4 g3 hp hl hu hv
        refine ⟨h2, ?_, g2.tr k2⟩
        unfold f_M_more
        rw [g1, hb, bnd_some, if_neg (by decide), M_isTen, h3, bnd_some, if_neg (by decide), M_isTen, h4, bnd_some, if_neg (by decide), k1, bnd_some]
      · refine ⟨-2, ⟨h, ?_, Same.rf h⟩, fun g cg => ?_⟩
        · unfold f_C_more
          rw [C_can c, hb, bnd_some, if_neg (by decide), if_neg (nI_pos (by omega)), if_neg (nle10 hu)]
          rcases n10 x4 h4 with q | ⟨-, q⟩
          · rw [if_pos q]
          · rw [if_neg q, ite_self]
        · obtain ⟨h1, g1, g2, g3, g4⟩ := M_isWeb cg (nI p) (nI l)
          refine ⟨h1, ?_, g2⟩
          unfold f_M_more
          rw [g1, hb, bnd_some, if_neg (by decide), M_isTen, h3, bnd_some, if_neg (by decide), M_isTen, bnd_some, if_neg h4, if_pos rfl]
    · refine ⟨-2, ⟨h, ?_, Same.rf h⟩, fun g cg => ?_⟩
      · unfold f_C_more
        rw [C_can c, hb, bnd_some, if_neg (by decide)]
        rcases n10 x3 h3 with q | ⟨q, -⟩
        · rw [if_pos q]
        · rw [if_pos q, ite_self]
      · obtain ⟨h1, g1, g2, g3, g4⟩ := M_isWeb cg (nI p) (nI l)
        refine ⟨h1, ?_, g2⟩
        unfold f_M_more
        rw [g1, hb, bnd_some, if_neg (by decide), M_isTen, bnd_some, if_neg h3, if_pos rfl]
  · refine ⟨-2, ⟨h, ?_, Same.rf h⟩, fun g cg => ?_⟩
    · unfold f_C_more
      rw [C_can c, bnd_some, if_neg hb, if_pos rfl]
    · obtain ⟨h1, g1, g2, g3, g4⟩ := M_isWeb cg x1 x2
      refine ⟨h1, ?_, g2⟩
      unfold f_M_more
      rw [g1, bnd_some, if_neg hb, if_pos rfl]
theorem hv_last (x1 x2 x3 x4 : Int32) : HV (f_C_last x1 x2 x3 x4) (f_M_last x1 x2 x3 x4) := by
  intro h n x y thr hun rea hid flt c
  have hn := c.1.1
  by_cases hb : (inN x1 n && inN x2 4) = true
  · obtain ⟨b1, b2⟩ := Bool.and_eq_true_iff.mp hb
    obtain ⟨p, hp, rfl⟩ := inN_ex b1 (by omega)
    obtain ⟨l, hl, rfl⟩ := inN_ex b2 (by omega)
    by_cases h3 : inN x3 n = true
    · obtain ⟨q, hq, rfl⟩ := inN_ex h3 (by omega)
      by_cases hpq : p = q
      · subst hpq
        refine ⟨-2, ⟨h, ?_, Same.rf h⟩, fun g cg => ?_⟩
        · unfold f_C_last
          rw [C_can c, hb, bnd_some, if_neg (by decide), Fr_has _ c.2.1.1 hn, h3, bnd_some, if_neg (by decide), if_pos rfl]
        · obtain ⟨h1, g1, g2, g3, g4⟩ := M_isWeb cg (nI p) (nI l)
          obtain ⟨h2, k1, k2, k3, k4⟩ := g4.isPeg (nI p)
          refine ⟨h2, ?_, g2.tr k2⟩
          unfold f_M_last
          rw [g1, hb, bnd_some, if_neg (by decide), k1, h3, bnd_some, if_neg (by decide), if_pos rfl]
      · have ne : ¬ nI p = nI q := fun z => hpq (nI_inj (by omega) (by omega) z)
        by_cases h4 : inN x4 2 = true
        · refine ⟨_, C_lastP c hp hl hq hpq (in2 x4 h4), fun g cg => ?_⟩
          obtain ⟨h1, g1, g2, g3, g4⟩ := M_isWeb cg (nI p) (nI l)
          obtain ⟨h2, k1, k2, k3, k4⟩ := g4.isPeg (nI q)
          obtain ⟨h5, f1, f2, f3⟩ := M_lastOf k4 k3 x4 hp hl hq
          refine ⟨h5, ?_, (g2.tr k2).tr f2⟩
          unfold f_M_last
          rw [g1, hb, bnd_some, if_neg (by decide), k1, h3, bnd_some, if_neg (by decide), if_neg ne, show f_M_in x4 0 1 h2 = _ from in_lit x4 (n := 1) (by omega) h2, h4, bnd_some, if_neg (by decide), f1, bnd_some]
        · refine ⟨-2, ⟨h, ?_, Same.rf h⟩, fun g cg => ?_⟩
          · unfold f_C_last
            rw [C_can c, hb, bnd_some, if_neg (by decide), Fr_has _ c.2.1.1 hn, h3, bnd_some, if_neg (by decide), if_neg ne]
            by_cases q0 : x4 < 0
            · rw [if_pos q0]
            · rw [if_neg q0, if_neg (show ¬ x4 ≤ 1 from fun z => h4 ((le1L x4).mp ⟨q0, z⟩))]
          · obtain ⟨h1, g1, g2, g3, g4⟩ := M_isWeb cg (nI p) (nI l)
            obtain ⟨h2, k1, k2, k3, k4⟩ := g4.isPeg (nI q)
            refine ⟨h2, ?_, g2.tr k2⟩
            unfold f_M_last
            rw [g1, hb, bnd_some, if_neg (by decide), k1, h3, bnd_some, if_neg (by decide), if_neg ne, show f_M_in x4 0 1 h2 = _ from in_lit x4 (n := 1) (by omega) h2, bnd_some, if_neg h4, if_pos rfl]
    · refine ⟨-2, ⟨h, ?_, Same.rf h⟩, fun g cg => ?_⟩
      · unfold f_C_last
        rw [C_can c, hb, bnd_some, if_neg (by decide), Fr_has _ c.2.1.1 hn, bnd_some, if_neg h3, if_pos rfl]
      · obtain ⟨h1, g1, g2, g3, g4⟩ := M_isWeb cg (nI p) (nI l)
        obtain ⟨h2, k1, k2, k3, k4⟩ := g4.isPeg x3
        refine ⟨h2, ?_, g2.tr k2⟩
        unfold f_M_last
        rw [g1, hb, bnd_some, if_neg (by decide), k1, bnd_some, if_neg h3, if_pos rfl]
  · refine ⟨-2, ⟨h, ?_, Same.rf h⟩, fun g cg => ?_⟩
    · unfold f_C_last
      rw [C_can c, bnd_some, if_neg hb, if_pos rfl]
    · obtain ⟨h1, g1, g2, g3, g4⟩ := M_isWeb cg x1 x2
      refine ⟨h1, ?_, g2⟩
      unfold f_M_last
      rw [g1, bnd_some, if_neg hb, if_pos rfl]
theorem hv_two (x1 x2 x3 x4 x5 : Int32) : HV (f_C_two x1 x2 x3 x4 x5) (f_M_two x1 x2 x3 x4 x5) := by
  intro h n x y thr hun rea hid flt c
  have hn := c.1.1
  by_cases hb : (inN x1 n && inN x2 4) = true
  · obtain ⟨b1, b2⟩ := Bool.and_eq_true_iff.mp hb
    obtain ⟨p, hp, rfl⟩ := inN_ex b1 (by omega)
    obtain ⟨l, hl, rfl⟩ := inN_ex b2 (by omega)
    by_cases hb' : (inN x3 n && inN x4 4) = true
    · obtain ⟨b3, b4⟩ := Bool.and_eq_true_iff.mp hb'
      obtain ⟨q, hq, rfl⟩ := inN_ex b3 (by omega)
      obtain ⟨l', hl', rfl⟩ := inN_ex b4 (by omega)
      by_cases hpq : p = q
      · subst hpq
        refine ⟨-2, ⟨h, ?_, Same.rf h⟩, fun g cg => ?_⟩
        · unfold f_C_two
          rw [C_can c, hb, bnd_some, if_neg (by decide), C_can c, hb', bnd_some, if_neg (by decide), if_pos rfl]
        · obtain ⟨h1, g1, g2, g3, g4⟩ := M_isWeb cg (nI p) (nI l)
          obtain ⟨h2, k1, k2, k3, k4⟩ := M_isWeb g4 (nI p) (nI l')
          refine ⟨h2, ?_, g2.tr k2⟩
          unfold f_M_two
          rw [g1, hb, bnd_some, if_neg (by decide), k1, hb', bnd_some, if_neg (by decide), if_pos rfl]
      · have ne : ¬ nI p = nI q := fun z => hpq (nI_inj (by omega) (by omega) z)
        by_cases h5 : inN x5 3 = true
        · refine ⟨_, C_twoP c hp hl hq hl' hpq ((inN_le x5).mpr h5), fun g cg => ?_⟩
          obtain ⟨h1, g1, g2, g3, g4⟩ := M_isWeb cg (nI p) (nI l)
          obtain ⟨h2, k1, k2, k3, k4⟩ := M_isWeb g4 (nI q) (nI l')
          obtain ⟨h6, f1, f2, f3⟩ := M_twoOf k4 k3 x5 hp hl hq hl' hpq
          refine ⟨h6, ?_, (g2.tr k2).tr f2⟩
          unfold f_M_two
          rw [g1, hb, bnd_some, if_neg (by decide), k1, hb', bnd_some, if_neg (by decide), if_neg ne, show f_M_in x5 0 2 h2 = _ from in_lit x5 (n := 2) (by omega) h2, h5, bnd_some, if_neg (by decide), f1, bnd_some]
        · refine ⟨-2, ⟨h, ?_, Same.rf h⟩, fun g cg => ?_⟩
          · unfold f_C_two
            rw [C_can c, hb, bnd_some, if_neg (by decide), C_can c, hb', bnd_some, if_neg (by decide), if_neg ne]
            by_cases q0 : x5 < 0
            · rw [if_pos q0]
            · rw [if_neg q0, if_neg (show ¬ x5 ≤ 2 from fun z => h5 ((inN_le x5).mp ⟨q0, z⟩))]
          · obtain ⟨h1, g1, g2, g3, g4⟩ := M_isWeb cg (nI p) (nI l)
            obtain ⟨h2, k1, k2, k3, k4⟩ := M_isWeb g4 (nI q) (nI l')
            refine ⟨h2, ?_, g2.tr k2⟩
            unfold f_M_two
            rw [g1, hb, bnd_some, if_neg (by decide), k1, hb', bnd_some, if_neg (by decide), if_neg ne, show f_M_in x5 0 2 h2 = _ from in_lit x5 (n := 2) (by omega) h2, bnd_some, if_neg h5, if_pos rfl]
    · refine ⟨-2, ⟨h, ?_, Same.rf h⟩, fun g cg => ?_⟩
      · unfold f_C_two
        rw [C_can c, hb, bnd_some, if_neg (by decide), C_can c, bnd_some, if_neg hb', if_pos rfl]
      · obtain ⟨h1, g1, g2, g3, g4⟩ := M_isWeb cg (nI p) (nI l)
        obtain ⟨h2, k1, k2, k3, k4⟩ := M_isWeb g4 x3 x4
        refine ⟨h2, ?_, g2.tr k2⟩
        unfold f_M_two
        rw [g1, hb, bnd_some, if_neg (by decide), k1, bnd_some, if_neg hb', if_pos rfl]
  · refine ⟨-2, ⟨h, ?_, Same.rf h⟩, fun g cg => ?_⟩
    · unfold f_C_two
      rw [C_can c, bnd_some, if_neg hb, if_pos rfl]
    · obtain ⟨h1, g1, g2, g3, g4⟩ := M_isWeb cg x1 x2
      refine ⟨h1, ?_, g2⟩
      unfold f_M_two
      rw [g1, bnd_some, if_neg hb, if_pos rfl]
