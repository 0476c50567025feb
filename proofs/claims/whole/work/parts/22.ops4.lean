/-! PURE: type, wipe, undo, hide, set, seen, forget -/
/-- the text of the class and of the reference change alike -/
theorem text_ok {h g gC gM : Hp} {tl : Nat} (hr : Rel h) (hl : tl ≤ 40) (e1 : g 1 1 = nI tl) (e2 : ∀ b, b ≠ 1 → b ≠ 2 → g b = h b) (hc : ∃ g', f_Tx_pegsTo 1 3 g = some ((parse (g 2) tl).1, g') ∧ gC = hset g' 0 6 (parse (g 2) tl).1 ∧ g' 3 2 = nI (parse (g 2) tl).2 ∧ (∀ k, k < (parse (g 2) tl).2 → g' 4 k = pxX (g 2) k ∧ g' 5 k = pxY (g 2) k) ∧ cfr 3 g g')
    (m1 : gM 31 1 = nI tl) (m2 : gM 32 = g 2) (m3 : ∀ b, b ≠ 31 → b ≠ 32 → gM b = gC b) (m4 : ∀ k, k ≠ 1 → gM 31 k = gC 31 k) : Rel gM := by
  obtain ⟨g', -, rfl, a2, a3, a4⟩ := hc
  obtain ⟨r1, r2, r3, r4⟩ := hr
  have row : ∀ b, b ≠ 0 → b ≠ 1 → b ≠ 2 → b ≠ 3 → b ≠ 4 → b ≠ 5 → b ≠ 31 → b ≠ 32 → gM b = h b := fun b b0 b1 b2 b3 b4 b5 b31 b32 => by
    rw [m3 b b31 b32, hset_off b0, a4 b b3 b4 b5, e2 b b1 b2]
  have c0 : ∀ k, k ≠ 6 → gM 0 k = h 0 k := fun k hk => by
    rw [m3 0 (by omega) (by omega), hset_ne (by omega), a4 0 (by omega) (by omega) (by omega), e2 0 (by omega) (by omega)]
  have c31 : ∀ k, k ≠ 1 → gM 31 k = h 31 k := fun k hk => by
    rw [m4 k hk, hset_ne (by omega), a4 31 (by omega) (by omega) (by omega), e2 31 (by omega) (by omega)]
  refine ⟨⟨tl, hl, ?_, m1, ?_, ?_, ?_, ?_⟩, r2.cg (fun k _ _ => c0 k (by omega)) (fun k _ _ => c31 k (by omega)) (c31 24 (by omega)), r3.cg ?_ (c31 14 (by omega)) (fun a h1 h2 => row a (by omega) (by omega) (by omega) (by omega) (by omega) (by omega) (by omega) (by omega)) (fun a h1 h2 => row a (by omega) (by omega) (by omega) (by omega) (by omega) (by omega) (by omega) (by omega)), r4.cg (fun a h1 h2 => row a (by omega) (by omega) (by omega) (by omega) (by omega) (by omega) (by omega) (by omega)) (fun a h1 h2 => row a (by omega) (by omega) (by omega) (by omega) (by omega) (by omega) (by omega) (by omega))⟩
  · rw [m3 1 (by omega) (by omega), hset_ne (by omega), a4 1 (by omega) (by omega) (by omega), e1]
  · rw [m2, m3 2 (by omega) (by omega), hset_off (by omega), a4 2 (by omega) (by omega) (by omega)]
  · rw [m2, m3 0 (by omega) (by omega), hset_eq]
  · rw [m2, m3 3 (by omega) (by omega), hset_ne (by omega), a2]
  · intro k hk
    rw [m2] at hk
    rw [m2, m3 4 (by omega) (by omega), m3 5 (by omega) (by omega), hset_ne (by omega), hset_ne (by omega)]
    exact a3 k hk
  · rw [row 10 (by omega) (by omega) (by omega) (by omega) (by omega) (by omega) (by omega) (by omega)]
theorem le255 (u : Int32) : (¬ u < 0 ∧ u ≤ 255) ↔ inN u 256 = true := by
  have e0 : (0 : Int32).toInt = 0 := by decide
  have e2 : (255 : Int32).toInt = 255 := by decide
  simp only [lt_iff, le_iff, e0, e2, inN, decide_eq_true_eq]; omega
theorem op_type (x1 : Int32) : OpOK Rel (f_C_type x1) (f_M_type x1) := by
  intro h hr
  obtain ⟨tl, h1, h2, h3, h4, h5, h6, h7⟩ := hr.1
  by_cases hb : inN x1 256 = true
  · obtain ⟨q1, q2⟩ := (le255 x1).mpr hb
    by_cases ht : tl = 40
    · refine ⟨-4, h, h, ?_, ?_, hr⟩
      · unfold f_C_type
        rw [if_neg q1, if_pos q2, h2, ht, if_neg (show ¬ nI 40 < 40 by decide)]
      · unfold f_M_type
        rw [show f_M_in x1 0 255 h = _ from in_lit x1 (n := 255) (by omega) h, hb, bnd_some, if_neg (by decide), h3, ht, if_pos (show nI 40 = 40 from rfl)]
    · have hlt : nI tl < 40 := nI_lt (b := 40) (by omega) (by omega)
      have e1 : f_Tx_append 1 x1 h = some ((), hset (hset h 2 tl x1) 1 1 (nI (tl + 1))) := by
        unfold f_Tx_append
        rw [h2, if_neg (show ¬ (40 : Int32) ≤ nI tl from nI_ge (b := 40) (by omega) (by omega)), chk_nI (by omega) (by omega), ix_nI (by omega)]
        rw [show (hset h (1 + 1) tl x1) 1 1 = nI tl from by rw [hset_ne (by omega)]; exact h2, nI_1]
      generalize hg : hset (hset h 2 tl x1) 1 1 (nI (tl + 1)) = g at e1
      have g1 : g 1 1 = nI (tl + 1) := by rw [← hg, hset_eq]
      have g2 : ∀ b, b ≠ 1 → b ≠ 2 → g b = h b := fun b b1 b2 => by rw [← hg, hset_off b1, hset_off b2]
      obtain ⟨g', a1, a2, a3, a4⟩ := Tx_pegsTo (h := g) (tl := tl + 1) (by omega) g1
      have w1 : (hset g' 0 6 (parse (g 2) (tl + 1)).1) 1 1 = nI (tl + 1) := by rw [hset_ne (by omega), a4 1 (by omega) (by omega) (by omega), g1]
      have w31 : ∀ k, (hset g' 0 6 (parse (g 2) (tl + 1)).1) 31 k = h 31 k := fun k => by rw [hset_ne (by omega), a4 31 (by omega) (by omega) (by omega), g2 31 (by omega) (by omega)]
      have w32 : (hset g' 0 6 (parse (g 2) (tl + 1)).1) 32 = h 32 := by rw [hset_off (by omega), a4 32 (by omega) (by omega) (by omega), g2 32 (by omega) (by omega)]
      generalize hgC : hset g' 0 6 (parse (g 2) (tl + 1)).1 = gC at w1 w31 w32
      refine ⟨nI (tl + 1), gC, hset (hset gC 32 tl x1) 31 1 (nI (tl + 1)), ?_, ?_, ?_⟩
      · unfold f_C_type
        rw [if_neg q1, if_pos q2, h2, if_pos hlt, e1, bnd_some, a1, bnd_some, hgC, w1]
      · unfold f_M_type
        rw [show f_M_in x1 0 255 gC = _ from in_lit x1 (n := 255) (by omega) gC, hb, bnd_some, if_neg (by decide), w31, h3, if_neg (show ¬ nI tl = 40 from fun z => ht (nI_inj (a := tl) (b := 40) (by omega) (by omega) z)), chk_nI (by omega) (by omega), ix_nI (by omega)]
        rw [show (hset gC 32 tl x1) 31 1 = nI tl from by rw [hset_ne (by omega), w31]; exact h3, nI_1, hset_eq]
      · refine text_ok hr (tl := tl + 1) (g := g) (gC := gC) (by omega) g1 g2 ⟨g', a1, hgC.symm, a2, a3, a4⟩ (by rw [hset_eq]) ?_ (fun b b1 b2 => by rw [hset_off b1, hset_off b2]) (fun k hk => by rw [hset_ne (by omega), hset_ne (by omega)])
        rw [hset_off (by omega), hrow, w32, ← hg, hset_off (by omega), hrow, h4]
  · refine ⟨-2, h, h, ?_, ?_, hr⟩
    · unfold f_C_type
      by_cases q : x1 < 0
      · rw [if_pos q]
      · rw [if_neg q, if_neg (show ¬ x1 ≤ 255 from fun z => hb ((le255 x1).mp ⟨q, z⟩))]
    · unfold f_M_type
      rw [show f_M_in x1 0 255 h = _ from in_lit x1 (n := 255) (by omega) h, bnd_some, if_neg hb, if_pos rfl]
/-- the class's text is cut to tl' -/
theorem cut_ok {h : Hp} {tl tl' : Nat} (hr : Rel h) (h1 : tl ≤ 40) (h2 : h 1 1 = nI tl) (h4 : h 2 = h 32) (hlt : tl' ≤ tl) : ∃ g gC, f_Tx_shorten 1 (nI tl') h = some ((), g) ∧ g 1 1 = nI tl' ∧ (∃ g', f_Tx_pegsTo 1 3 g = some ((parse (g 2) tl').1, g') ∧ hset g' 0 6 (parse (g 2) tl').1 = gC) ∧ gC 1 1 = nI tl' ∧ gC 31 1 = h 31 1 ∧ Rel (hset gC 31 1 (nI tl')) := by
  have e1 : ∃ g, f_Tx_shorten 1 (nI tl') h = some ((), g) ∧ g 1 1 = nI tl' ∧ (∀ b, b ≠ 1 → g b = h b) := by
    unfold f_Tx_shorten
    rw [if_neg (nI_pos (by omega)), h2]
    by_cases hc : tl ≤ tl'
    · rw [if_pos (nI_le hc (by omega))]
      exact ⟨h, rfl, by rw [h2]; congr 1; omega, fun _ _ => rfl⟩
    · rw [if_neg (nI_ge (by omega) (by omega))]
      exact ⟨_, rfl, hset_eq _ _ _ _, fun b hb => hset_off hb⟩
  obtain ⟨g, s1, g1, g2⟩ := e1
  obtain ⟨g', a1, a2, a3, a4⟩ := Tx_pegsTo (h := g) (tl := tl') (by omega) g1
  have w31 : (hset g' 0 6 (parse (g 2) tl').1) 31 1 = h 31 1 := by rw [hset_ne (by omega), a4 31 (by omega) (by omega) (by omega), g2 31 (by omega)]
  refine ⟨g, hset g' 0 6 (parse (g 2) tl').1, s1, g1, ⟨g', a1, rfl⟩, by rw [hset_ne (by omega), a4 1 (by omega) (by omega) (by omega), g1], w31, ?_⟩
  refine text_ok hr (tl := tl') (g := g) (by omega) g1 (fun b b1 _ => g2 b b1) ⟨g', a1, rfl, a2, a3, a4⟩ (by rw [hset_eq]) ?_ (fun b b1 b2 => hset_off b1) (fun k hk => hset_ne (by omega))
  rw [hset_off (by omega), hset_off (by omega), a4 32 (by omega) (by omega) (by omega), g2 32 (by omega), g2 2 (by omega), h4]
theorem op_wipe : OpOK Rel f_C_wipe f_M_wipe := by
  intro h hr
  obtain ⟨tl, h1, h2, h3, h4, h5, h6, h7⟩ := hr.1
  obtain ⟨g, gC, s1, s2, ⟨g', s3, s4⟩, s5, s6, s7⟩ := cut_ok (tl' := 0) hr h1 h2 h4 (Nat.zero_le _)
  refine ⟨nI tl, gC, hset gC 31 1 (nI 0), ?_, ?_, s7⟩
  · unfold f_C_wipe
    rw [show f_Tx_shorten 1 0 h = _ from s1, bnd_some, s3, bnd_some, s4, h2]
  · unfold f_M_wipe
    rw [s6, h3]; rfl
theorem op_undo : OpOK Rel f_C_undo f_M_undo := by
  intro h hr
  obtain ⟨tl, h1, h2, h3, h4, h5, h6, h7⟩ := hr.1
  by_cases h0 : tl = 0
  · subst h0
    refine ⟨-3, h, h, ?_, ?_, hr⟩
    · unfold f_C_undo; rw [h2, if_neg (by decide)]
    · unfold f_M_undo; rw [h3, if_pos (by decide)]
  · obtain ⟨k, rfl⟩ : ∃ k, tl = k + 1 := ⟨tl - 1, by omega⟩
    obtain ⟨g, gC, s1, s2, ⟨g', s3, s4⟩, s5, s6, s7⟩ := cut_ok (tl' := k) hr h1 h2 h4 (by omega)
    refine ⟨nI k, gC, hset gC 31 1 (nI k), ?_, ?_, s7⟩
    · unfold f_C_undo
      rw [h2, if_pos (show (0 : Int32) < nI (k + 1) from nI_lt (a := 0) (by omega) (by omega)), nI_pred, s1, bnd_some, s3, bnd_some, s4, s5]
    · unfold f_M_undo
      rw [s6, h3, if_neg (nz (by omega) (by omega)), nI_pred, hset_eq]
theorem ge10 (u : Int32) : (¬ u < 0 ∧ ¬ 10 ≤ u) ↔ inN u 10 = true := by
  have e0 : (0 : Int32).toInt = 0 := by decide
  have e2 : (10 : Int32).toInt = 10 := by decide
  simp only [lt_iff, le_iff, e0, e2, inN, decide_eq_true_eq]; omega
theorem le1 (u : Int32) : (¬ u < 0 ∧ u ≤ 1) ↔ inN u 2 = true := by
  have e0 : (0 : Int32).toInt = 0 := by decide
  have e2 : (1 : Int32).toInt = 1 := by decide
  simp only [lt_iff, le_iff, e0, e2, inN, decide_eq_true_eq]; omega
theorem op_hide (x1 x2 : Int32) : OpOK Rel (f_C_hide x1 x2) (f_M_hide x1 x2) := by
  intro h hr
  by_cases h1 : inN x1 10 = true
  · obtain ⟨q1, q2⟩ := (ge10 x1).mpr h1
    by_cases h2 : inN x2 2 = true
    · obtain ⟨q3, q4⟩ := (le1 x2).mpr h2
      obtain ⟨p, hp, rfl⟩ := inN_ex h1 (by omega)
      obtain ⟨r1, r2, r3, r4⟩ := hr
      generalize hV : ((h 0 7) &&& (((1 : Int32) <<< (nI p &&& 31)) ^^^ (-1))) ||| (x2 <<< (nI p &&& 31)) = v
      refine ⟨if bt (h 0 7) p = true then 1 else 0, hset h 0 7 v, hset (hset h 0 7 v) 31 5 v, ?_, ?_, ?_⟩
      · unfold f_C_hide f_C_isHidden f_C_setHidden
        rw [if_neg q1, if_neg q2, if_neg q3, if_pos q4, bt_shr _ (by omega), ← hV]
        cases bt (h 0 7) p <;> rfl
      · unfold f_M_hide
        rw [M_isTen, h1, bnd_some, if_neg (by decide), show f_M_in x2 0 1 (hset h 0 7 v) = _ from in_lit x2 (n := 1) (by omega) _, h2, bnd_some, if_neg (by decide), hset_ne (by omega), ← r2.1, bt_shr _ (by omega), hV]
      · refine ⟨r1.cg (by rw [hset_ne (by omega), hset_ne (by omega)]) (by rw [hset_ne (by omega), hset_ne (by omega)]) (by rw [hset_off (by omega), hset_off (by omega)]) (by rw [hset_off (by omega), hset_off (by omega)]) (by rw [hset_ne (by omega), hset_ne (by omega)]) (by rw [hset_off (by omega), hset_off (by omega)]) (by rw [hset_off (by omega), hset_off (by omega)]) (by rw [hset_off (by omega), hset_off (by omega)]), ?_, r3.cg (by rw [hset_ne (by omega), hset_ne (by omega)]) (by rw [hset_ne (by omega), hset_ne (by omega)]) (fun a _ _ => by rw [hset_off (by omega), hset_off (by omega)]) (fun a _ _ => by rw [hset_off (by omega), hset_off (by omega)]), r4.cg (fun a _ _ => by rw [hset_off (by omega), hset_off (by omega)]) (fun a _ _ => by rw [hset_off (by omega), hset_off (by omega)])⟩
        obtain ⟨v1, v2, v3, v4, v5⟩ := r2
        unfold RV
        have z0 : ∀ k, k ≠ 7 → hset (hset h 0 7 v) 31 5 v 0 k = h 0 k := fun k hk => by rw [hset_ne (by omega), hset_ne (by omega)]
        have z31 : ∀ k, k ≠ 5 → hset (hset h 0 7 v) 31 5 v 31 k = h 31 k := fun k hk => by rw [hset_ne (by omega), hset_ne (by omega)]
        rw [z0 8 (by omega), z0 9 (by omega), z0 10 (by omega), z0 11 (by omega), z31 6 (by omega), z31 7 (by omega), z31 8 (by omega), z31 24 (by omega), hset_eq, hset_ne (by omega), hset_eq]
        exact ⟨rfl, v2, v3, v4, v5⟩
    · refine ⟨-2, h, h, ?_, ?_, hr⟩
      · unfold f_C_hide
        rw [if_neg q1, if_neg q2]
        by_cases q : x2 < 0
        · rw [if_pos q]
        · rw [if_neg q, if_neg (show ¬ x2 ≤ 1 from fun z => h2 ((le1 x2).mp ⟨q, z⟩))]
      · unfold f_M_hide
        rw [M_isTen, h1, bnd_some, if_neg (by decide), show f_M_in x2 0 1 h = _ from in_lit x2 (n := 1) (by omega) h, bnd_some, if_neg h2, if_pos rfl]
  · refine ⟨-2, h, h, ?_, ?_, hr⟩
    · unfold f_C_hide
      by_cases q : x1 < 0
      · rw [if_pos q]
      · rw [if_neg q, if_pos (show 10 ≤ x1 from Classical.byContradiction fun z => h1 ((ge10 x1).mp ⟨q, z⟩))]
    · unfold f_M_hide
      rw [M_isTen, bnd_some, if_neg h1, if_pos rfl]
theorem op_forget : OpOK Rel f_C_forget f_M_forget := by
  intro h hr
  obtain ⟨r1, r2, ⟨n1, n2, n3, ns, k1, k2, k3, k4⟩, r4⟩ := hr
  refine ⟨nI ns, hset h 10 3 0, hset (hset h 10 3 0) 31 14 0, ?_, ?_, r1.cg (by rw [hset_ne (by omega), hset_ne (by omega)]) (by rw [hset_ne (by omega), hset_ne (by omega)]) (by rw [hset_off (by omega), hset_off (by omega)]) (by rw [hset_off (by omega), hset_off (by omega)]) (by rw [hset_ne (by omega), hset_ne (by omega)]) (by rw [hset_off (by omega), hset_off (by omega)]) (by rw [hset_off (by omega), hset_off (by omega)]) (by rw [hset_off (by omega), hset_off (by omega)]), r2.cg (fun k _ _ => by rw [hset_ne (by omega), hset_ne (by omega)]) (fun k _ _ => by rw [hset_ne (by omega), hset_ne (by omega)]) (by rw [hset_ne (by omega), hset_ne (by omega)]), ?_, r4.cg (fun a _ _ => by rw [hset_off (by omega), hset_off (by omega)]) (fun a _ _ => by rw [hset_off (by omega), hset_off (by omega)])⟩
  · unfold f_C_forget; rw [k2]
  · unfold f_M_forget; rw [hset_ne (by omega), k3]
  · have z : ∀ b, b ≠ 10 → b ≠ 31 → hset (hset h 10 3 0) 31 14 0 b = h b := fun b b1 b2 => by rw [hset_off b2, hset_off b1]
    refine ⟨by rw [z 11 (by omega) (by omega), z 37 (by omega) (by omega)]; exact n1, by rw [z 12 (by omega) (by omega), z 38 (by omega) (by omega)]; exact n2, by rw [z 13 (by omega) (by omega), z 39 (by omega) (by omega)]; exact n3, 0, by omega, by rw [hset_ne (by omega), hset_eq]; rfl, by rw [hset_eq]; rfl, fun i hi => absurd hi (Nat.not_lt_zero i)⟩
