/-! PURE: set, seen -/
/-- two cells of the class and the reference change alike, which RT, RN, RS don't see -/
theorem two_ok {h : Hp} {a b : Nat} {v w : Int32} (hr : Rel h) (ha : 7 ≤ a ∧ a ≤ 11) (hb : (5 ≤ b ∧ b ≤ 8) ∨ b = 24) (hv : RV (hset (hset h 0 a v) 31 b w)) : Rel (hset (hset h 0 a v) 31 b w) := by
  obtain ⟨r1, r2, r3, r4⟩ := hr
  have z : ∀ c, c ≠ 0 → c ≠ 31 → hset (hset h 0 a v) 31 b w c = h c := fun c c1 c2 => by rw [hset_off c2, hset_off c1]
  exact ⟨r1.cg (by rw [z 1 (by omega) (by omega)]) (by rw [hset_ne (by omega), hset_ne (by omega)]) (z 2 (by omega) (by omega)) (z 32 (by omega) (by omega)) (by rw [hset_ne (by omega), hset_ne (by omega)]) (z 3 (by omega) (by omega)) (z 4 (by omega) (by omega)) (z 5 (by omega) (by omega)), hv, r3.cg (by rw [z 10 (by omega) (by omega)]) (by rw [hset_ne (by omega), hset_ne (by omega)]) (fun c _ _ => z c (by omega) (by omega)) (fun c _ _ => z c (by omega) (by omega)), r4.cg (fun c _ _ => z c (by omega) (by omega)) (fun c _ _ => z c (by omega) (by omega))⟩
theorem hset_id (h : Hp) (a k : Nat) : hset h a k (h a k) = h := by
  funext b j
  rw [hset_app]
  split
  · next q => rw [q.1, q.2]
  · rfl
theorem hset_idv {h : Hp} {a k : Nat} {v : Int32} (e : v = h a k) : hset h a k v = h := by rw [e, hset_id]
theorem le200 (u : Int32) : (0 ≤ u ∧ ¬ 200 < u) ↔ inN u 201 = true := by
  have e0 : (0 : Int32).toInt = 0 := by decide
  have e2 : (200 : Int32).toInt = 200 := by decide
  simp only [lt_iff, le_iff, e0, e2, inN, decide_eq_true_eq]; omega
theorem le9 (u : Int32) : (0 ≤ u ∧ ¬ 9 < u) ↔ inN u 10 = true := by
  have e0 : (0 : Int32).toInt = 0 := by decide
  have e2 : (9 : Int32).toInt = 9 := by decide
  simp only [lt_iff, le_iff, e0, e2, inN, decide_eq_true_eq]; omega
theorem set_bad {h : Hp} {x1 x2 : Int32} (hr : Rel h) (hC : f_C_set x1 x2 h = some (-2, h)) (hM : f_M_set x1 x2 h = some (-2, h)) : ∃ r h1 h2, f_C_set x1 x2 h = some (r, h1) ∧ f_M_set x1 x2 h1 = some (r, h2) ∧ Rel h2 := ⟨-2, h, h, hC, hM, hr⟩
theorem op_set (x1 x2 : Int32) : OpOK Rel (f_C_set x1 x2) (f_M_set x1 x2) := by
  intro h hr
  obtain ⟨v1, ⟨thr, t1, t2, t3⟩, ⟨hun, u1, u2, u3⟩, ⟨rea, w1, w2, w3⟩, v5⟩ := hr.2.1
  by_cases h1 : inN x1 3 = true
  · rcases n3.mp h1 with rfl | rfl | rfl
    · by_cases h2 : inN x2 201 = true
      · obtain ⟨q1, q2⟩ := (le200 x2).mpr h2
        obtain ⟨k, hk, rfl⟩ := inN_ex h2 (by omega)
        refine ⟨nI thr, hset h 0 8 (nI k), hset (hset h 0 8 (nI k)) 31 6 (nI k), ?_, ?_, two_ok hr (by omega) (by omega) ?_⟩
        · unfold f_C_set
          rw [if_pos q1, if_pos rfl, if_neg q2, t2]
        · unfold f_M_set
          rw [show f_M_in 0 0 2 (hset h 0 8 (nI k)) = some (1, _) from rfl, bnd_some, if_neg (by decide), if_pos rfl, show f_M_in (nI k) 0 200 (hset h 0 8 (nI k)) = _ from in_lit (nI k) (n := 200) (by omega) _, h2, bnd_some, if_neg (by decide), if_neg (by decide), if_neg (by decide), hset_idv (v := hset (hset h 0 8 (nI k)) 31 6 (nI k) 31 7) rfl, hset_idv (v := hset (hset h 0 8 (nI k)) 31 6 (nI k) 31 8) rfl, hset_ne (by omega), t3]
        · refine ⟨by rw [hset_ne (by omega), hset_ne (by omega), hset_ne (by omega), hset_ne (by omega)]; exact v1, ⟨k, by omega, by rw [hset_ne (by omega), hset_eq], by rw [hset_eq]⟩, ⟨hun, u1, by rw [hset_ne (by omega), hset_ne (by omega)]; exact u2, by rw [hset_ne (by omega), hset_ne (by omega)]; exact u3⟩, ⟨rea, w1, by rw [hset_ne (by omega), hset_ne (by omega)]; exact w2, by rw [hset_ne (by omega), hset_ne (by omega)]; exact w3⟩, by rw [hset_ne (by omega), hset_ne (by omega), hset_ne (by omega), hset_ne (by omega)]; exact v5⟩
      · refine set_bad hr ?_ ?_
        · unfold f_C_set
          by_cases q : 0 ≤ x2
          · rw [if_pos q, if_pos rfl, if_pos (show 200 < x2 from Classical.byContradiction fun z => h2 ((le200 x2).mp ⟨q, z⟩)), if_neg (by decide), if_neg (by decide)]
          · rw [if_neg q]
        · unfold f_M_set
          rw [show f_M_in 0 0 2 h = some (1, _) from rfl, bnd_some, if_neg (by decide), if_pos rfl, show f_M_in x2 0 200 h = _ from in_lit x2 (n := 200) (by omega) _, bnd_some, if_neg h2, if_pos rfl]
    · by_cases h2 : inN x2 10 = true
      · obtain ⟨q1, q2⟩ := (le9 x2).mpr h2
        obtain ⟨k, hk, rfl⟩ := inN_ex h2 (by omega)
        refine ⟨nI hun, hset h 0 9 (nI k), hset (hset h 0 9 (nI k)) 31 7 (nI k), ?_, ?_, two_ok hr (by omega) (by omega) ?_⟩
        · unfold f_C_set
          rw [if_pos q1, if_neg (by decide), if_pos rfl, if_neg q2, u2]
        · unfold f_M_set
          rw [show f_M_in 1 0 2 (hset h 0 9 (nI k)) = some (1, _) from rfl, bnd_some, if_neg (by decide), if_neg (by decide), show f_M_in (nI k) 0 9 (hset h 0 9 (nI k)) = _ from in_lit (nI k) (n := 9) (by omega) _, h2, bnd_some, if_neg (by decide), if_pos rfl, if_neg (by decide), hset_idv (v := hset h 0 9 (nI k) 31 6) rfl, hset_idv (v := hset (hset h 0 9 (nI k)) 31 7 (nI k) 31 8) rfl, hset_ne (by omega), u3]
        · refine ⟨by rw [hset_ne (by omega), hset_ne (by omega), hset_ne (by omega), hset_ne (by omega)]; exact v1, ⟨thr, t1, by rw [hset_ne (by omega), hset_ne (by omega)]; exact t2, by rw [hset_ne (by omega), hset_ne (by omega)]; exact t3⟩, ⟨k, by omega, by rw [hset_ne (by omega), hset_eq], by rw [hset_eq]⟩, ⟨rea, w1, by rw [hset_ne (by omega), hset_ne (by omega)]; exact w2, by rw [hset_ne (by omega), hset_ne (by omega)]; exact w3⟩, by rw [hset_ne (by omega), hset_ne (by omega), hset_ne (by omega), hset_ne (by omega)]; exact v5⟩
      · refine set_bad hr ?_ ?_
        · unfold f_C_set
          by_cases q : 0 ≤ x2
          · rw [if_pos q, if_neg (by decide), if_pos rfl, if_pos (show 9 < x2 from Classical.byContradiction fun z => h2 ((le9 x2).mp ⟨q, z⟩)), if_neg (by decide)]
          · rw [if_neg q]
        · unfold f_M_set
          rw [show f_M_in 1 0 2 h = some (1, _) from rfl, bnd_some, if_neg (by decide), if_neg (by decide), show f_M_in x2 0 9 h = _ from in_lit x2 (n := 9) (by omega) _, bnd_some, if_neg h2, if_pos rfl]
    · by_cases h2 : inN x2 10 = true
      · obtain ⟨q1, q2⟩ := (le9 x2).mpr h2
        obtain ⟨k, hk, rfl⟩ := inN_ex h2 (by omega)
        refine ⟨nI rea, hset h 0 10 (nI k), hset (hset h 0 10 (nI k)) 31 8 (nI k), ?_, ?_, two_ok hr (by omega) (by omega) ?_⟩
        · unfold f_C_set
          rw [if_pos q1, if_neg (by decide), if_neg (by decide), if_pos rfl, if_neg q2, w2]
        · unfold f_M_set
          rw [show f_M_in 2 0 2 (hset h 0 10 (nI k)) = some (1, _) from rfl, bnd_some, if_neg (by decide), if_neg (by decide), show f_M_in (nI k) 0 9 (hset h 0 10 (nI k)) = _ from in_lit (nI k) (n := 9) (by omega) _, h2, bnd_some, if_neg (by decide), if_neg (by decide), if_pos rfl, hset_idv (v := hset h 0 10 (nI k) 31 6) rfl, hset_idv (v := hset h 0 10 (nI k) 31 7) rfl, hset_ne (by omega), w3]
        · refine ⟨by rw [hset_ne (by omega), hset_ne (by omega), hset_ne (by omega), hset_ne (by omega)]; exact v1, ⟨thr, t1, by rw [hset_ne (by omega), hset_ne (by omega)]; exact t2, by rw [hset_ne (by omega), hset_ne (by omega)]; exact t3⟩, ⟨hun, u1, by rw [hset_ne (by omega), hset_ne (by omega)]; exact u2, by rw [hset_ne (by omega), hset_ne (by omega)]; exact u3⟩, ⟨k, by omega, by rw [hset_ne (by omega), hset_eq], by rw [hset_eq]⟩, by rw [hset_ne (by omega), hset_ne (by omega), hset_ne (by omega), hset_ne (by omega)]; exact v5⟩
      · refine set_bad hr ?_ ?_
        · unfold f_C_set
          by_cases q : 0 ≤ x2
          · rw [if_pos q, if_neg (by decide), if_neg (by decide), if_pos rfl, if_pos (show 9 < x2 from Classical.byContradiction fun z => h2 ((le9 x2).mp ⟨q, z⟩))]
          · rw [if_neg q]
        · unfold f_M_set
          rw [show f_M_in 2 0 2 h = some (1, _) from rfl, bnd_some, if_neg (by decide), if_neg (by decide), show f_M_in x2 0 9 h = _ from in_lit x2 (n := 9) (by omega) _, bnd_some, if_neg h2, if_pos rfl]
  · refine set_bad hr ?_ ?_
    · have q0 : ¬ x1 = 0 := fun z => h1 (n3.mpr (Or.inl z))
      have q1 : ¬ x1 = 1 := fun z => h1 (n3.mpr (Or.inr (Or.inl z)))
      have q2 : ¬ x1 = 2 := fun z => h1 (n3.mpr (Or.inr (Or.inr z)))
      unfold f_C_set
      rw [if_neg q0, if_neg q1, if_neg q2]
      split <;> rfl
    · unfold f_M_set
      rw [show f_M_in x1 0 2 h = _ from in_lit x1 (n := 2) (by omega) h, bnd_some, if_neg h1, if_pos rfl]
theorem in19 (u : Int32) : (¬ u < 1 ∧ ¬ 10 ≤ u) ↔ (((1 : Nat) : Int) ≤ u.toInt ∧ u.toInt ≤ ((9 : Nat) : Int)) := by
  have e0 : (1 : Int32).toInt = 1 := by decide
  have e2 : (10 : Int32).toInt = 10 := by decide
  simp only [lt_iff, le_iff, e0, e2]; omega
theorem op_seen (x1 x2 x3 : Int32) : OpOK Rel (f_C_seen x1 x2 x3) (f_M_seen x1 x2 x3) := by
  intro h hr
  obtain ⟨r1, r2, ⟨n1, n2, n3, ns, k1, k2, k3, k4⟩, r4⟩ := id hr
  by_cases h1 : inN x1 10 = true
  · obtain ⟨a1, a2⟩ := (ge10 x1).mpr h1
    by_cases h2 : (((1 : Nat) : Int) ≤ x2.toInt ∧ x2.toInt ≤ ((9 : Nat) : Int))
    · obtain ⟨b1, b2⟩ := (in19 x2).mpr h2
      by_cases h3 : inN x3 10 = true
      · obtain ⟨c1, c2⟩ := (ge10 x3).mpr h3
        have c3 : x3 < 10 := Int32.not_le.mp c2
        by_cases h8 : ns = 8
        · refine ⟨-4, h, h, ?_, ?_, hr⟩
          · unfold f_C_seen
            rw [if_neg a1, if_neg a2, if_neg b1, if_neg b2, if_neg c1, if_pos c3, k2, h8, if_neg (show ¬ nI 8 < 8 by decide)]
          · unfold f_M_seen
            rw [M_isTen, h1, bnd_some, if_neg (by decide), show f_M_in x2 1 9 h = _ from M_in x2 (a := 1) (b := 9) (by decide) (by decide) h, if_pos h2, bnd_some, if_neg (by decide), M_isTen, h3, bnd_some, if_neg (by decide), k3, h8, if_pos (show nI 8 = 8 from rfl)]
        · have hlt : nI ns < 8 := nI_lt (b := 8) (by omega) (by omega)
          have eC : f_No_add 10 x1 x2 x3 h = some ((), hset (hset (hset (hset h 11 ns x1) 12 ns x2) 13 ns x3) 10 3 (nI (ns + 1))) := by
            unfold f_No_add
            rw [k2, if_neg (show ¬ (8 : Int32) ≤ nI ns from nI_ge (b := 8) (by omega) (by omega)), chk_nI (by omega) (by omega), ix_nI (by omega)]
            rw [show (hset h (10 + 1) ns x1) 10 3 = nI ns from by rw [hset_ne (by omega)]; exact k2, chk_nI (by omega) (by omega), ix_nI (by omega)]
            rw [show (hset (hset h (10 + 1) ns x1) (10 + 2) ns x2) 10 3 = nI ns from by rw [hset_ne (by omega), hset_ne (by omega)]; exact k2, chk_nI (by omega) (by omega), ix_nI (by omega)]
            rw [show (hset (hset (hset h (10 + 1) ns x1) (10 + 2) ns x2) (10 + 3) ns x3) 10 3 = nI ns from by rw [hset_ne (by omega), hset_ne (by omega), hset_ne (by omega)]; exact k2, nI_1]
          generalize hg : hset (hset (hset (hset h 11 ns x1) 12 ns x2) 13 ns x3) 10 3 (nI (ns + 1)) = g at eC
          have zg : ∀ b, b ≠ 10 → b ≠ 11 → b ≠ 12 → b ≠ 13 → g b = h b := fun b b0 b1 b2 b3 => by rw [← hg, hset_off b0, hset_off b3, hset_off b2, hset_off b1]
          have g31 : g 31 14 = nI ns := by rw [zg 31 (by omega) (by omega) (by omega) (by omega)]; exact k3
          refine ⟨nI (ns + 1), g, hset (hset (hset (hset g 37 ns x1) 38 ns x2) 39 ns x3) 31 14 (nI (ns + 1)), ?_, ?_, ?_⟩
          · unfold f_C_seen
            rw [if_neg a1, if_neg a2, if_neg b1, if_neg b2, if_neg c1, if_pos c3, k2, if_pos hlt, eC, bnd_some, show g 10 3 = nI (ns + 1) from by rw [← hg, hset_eq]]
          · unfold f_M_seen
            rw [M_isTen, h1, bnd_some, if_neg (by decide), show f_M_in x2 1 9 g = _ from M_in x2 (a := 1) (b := 9) (by decide) (by decide) g, if_pos h2, bnd_some, if_neg (by decide), M_isTen, h3, bnd_some, if_neg (by decide), g31, if_neg (show ¬ nI ns = 8 from fun z => h8 (nI_inj (a := ns) (b := 8) (by omega) (by omega) z)), chk_nI (by omega) (by omega), ix_nI (by omega)]
            rw [show (hset g 37 ns x1) 31 14 = nI ns from by rw [hset_ne (by omega)]; exact g31, chk_nI (by omega) (by omega), ix_nI (by omega)]
            rw [show (hset (hset g 37 ns x1) 38 ns x2) 31 14 = nI ns from by rw [hset_ne (by omega), hset_ne (by omega)]; exact g31, chk_nI (by omega) (by omega), ix_nI (by omega)]
            rw [show (hset (hset (hset g 37 ns x1) 38 ns x2) 39 ns x3) 31 14 = nI ns from by rw [hset_ne (by omega), hset_ne (by omega), hset_ne (by omega)]; exact g31, nI_1, hset_eq]
          · generalize hg2 : hset (hset (hset (hset g 37 ns x1) 38 ns x2) 39 ns x3) 31 14 (nI (ns + 1)) = g2
            have z2 : ∀ b, b ≠ 31 → b ≠ 37 → b ≠ 38 → b ≠ 39 → g2 b = g b := fun b b0 b1 b2 b3 => by rw [← hg2, hset_off b0, hset_off b3, hset_off b2, hset_off b1]
            have z3 : ∀ b, b ≠ 31 → b ≠ 37 → b ≠ 38 → b ≠ 39 → b ≠ 10 → b ≠ 11 → b ≠ 12 → b ≠ 13 → g2 b = h b := fun b b0 b1 b2 b3 b4 b5 b6 b7 => by rw [z2 b b0 b1 b2 b3, zg b b4 b5 b6 b7]
            have z31 : ∀ k, k ≠ 14 → g2 31 k = h 31 k := fun k hk => by rw [← hg2, hset_ne (by omega), hset_ne (by omega), hset_ne (by omega), hset_ne (by omega), zg 31 (by omega) (by omega) (by omega) (by omega)]
            have w11 : g2 11 = upd (h 11) ns x1 := by rw [z2 11 (by omega) (by omega) (by omega) (by omega), ← hg, hset_off (by omega), hset_off (by omega), hset_off (by omega), hrow]
            have w12 : g2 12 = upd (h 12) ns x2 := by rw [z2 12 (by omega) (by omega) (by omega) (by omega), ← hg, hset_off (by omega), hset_off (by omega), hrow, hset_off (by omega)]
            have w13 : g2 13 = upd (h 13) ns x3 := by rw [z2 13 (by omega) (by omega) (by omega) (by omega), ← hg, hset_off (by omega), hrow, hset_off (by omega), hset_off (by omega)]
            have w37 : g2 37 = upd (h 37) ns x1 := by rw [← hg2, hset_off (by omega), hset_off (by omega), hset_off (by omega), hrow, zg 37 (by omega) (by omega) (by omega) (by omega)]
            have w38 : g2 38 = upd (h 38) ns x2 := by rw [← hg2, hset_off (by omega), hset_off (by omega), hrow, hset_off (by omega), zg 38 (by omega) (by omega) (by omega) (by omega)]
            have w39 : g2 39 = upd (h 39) ns x3 := by rw [← hg2, hset_off (by omega), hrow, hset_off (by omega), hset_off (by omega), zg 39 (by omega) (by omega) (by omega) (by omega)]
            refine ⟨r1.cg (by rw [z3 1 (by omega) (by omega) (by omega) (by omega) (by omega) (by omega) (by omega) (by omega)]) (z31 1 (by omega)) (z3 2 (by omega) (by omega) (by omega) (by omega) (by omega) (by omega) (by omega) (by omega)) (z3 32 (by omega) (by omega) (by omega) (by omega) (by omega) (by omega) (by omega) (by omega)) (by rw [z3 0 (by omega) (by omega) (by omega) (by omega) (by omega) (by omega) (by omega) (by omega)]) (z3 3 (by omega) (by omega) (by omega) (by omega) (by omega) (by omega) (by omega) (by omega)) (z3 4 (by omega) (by omega) (by omega) (by omega) (by omega) (by omega) (by omega) (by omega)) (z3 5 (by omega) (by omega) (by omega) (by omega) (by omega) (by omega) (by omega) (by omega)), r2.cg (fun k _ _ => by rw [z3 0 (by omega) (by omega) (by omega) (by omega) (by omega) (by omega) (by omega) (by omega)]) (fun k _ _ => z31 k (by omega)) (z31 24 (by omega)), ?_, r4.cg (fun a _ _ => z3 a (by omega) (by omega) (by omega) (by omega) (by omega) (by omega) (by omega) (by omega)) (fun a _ _ => z3 a (by omega) (by omega) (by omega) (by omega) (by omega) (by omega) (by omega) (by omega))⟩
            refine ⟨by rw [w11, w37, n1], by rw [w12, w38, n2], by rw [w13, w39, n3], ns + 1, by omega, by rw [z2 10 (by omega) (by omega) (by omega) (by omega), ← hg, hset_eq], by rw [← hg2, hset_eq], fun i hi => ?_⟩
            rw [w37, w38, w39]
            by_cases e : i = ns
            · subst e
              obtain ⟨f, hf, rfl⟩ := inN_ex h1 (by omega)
              obtain ⟨q, hq, rfl⟩ := inN_ex h3 (by omega)
              refine ⟨f, x2.toInt.toNat, q, hf, by omega, by omega, hq, by simp [upd], ?_, by simp [upd]⟩
              rw [show upd (h 38) i x2 i = x2 by simp [upd], eq_iff, nI_toInt (by omega)]
              omega
            · rw [show upd (h 37) ns x1 i = h 37 i by simp [upd, e], show upd (h 38) ns x2 i = h 38 i by simp [upd, e], show upd (h 39) ns x3 i = h 39 i by simp [upd, e]]
              exact k4 i (by omega)
      · refine ⟨-2, h, h, ?_, ?_, hr⟩
        · unfold f_C_seen
          rw [if_neg a1, if_neg a2, if_neg b1, if_neg b2]
          by_cases q : x3 < 0
          · rw [if_pos q]
          · rw [if_neg q, if_neg (show ¬ x3 < 10 from fun z => h3 ((inN_lt x3 (k := 10) (by omega)).mp ⟨q, z⟩))]
        · unfold f_M_seen
          rw [M_isTen, h1, bnd_some, if_neg (by decide), show f_M_in x2 1 9 h = _ from M_in x2 (a := 1) (b := 9) (by decide) (by decide) h, if_pos h2, bnd_some, if_neg (by decide), M_isTen, bnd_some, if_neg h3, if_pos rfl]
    · refine ⟨-2, h, h, ?_, ?_, hr⟩
      · unfold f_C_seen
        rw [if_neg a1, if_neg a2]
        by_cases q : x2 < 1
        · rw [if_pos q]
        · rw [if_neg q, if_pos (show 10 ≤ x2 from Classical.byContradiction fun z => h2 ((in19 x2).mp ⟨q, z⟩))]
      · unfold f_M_seen
        rw [M_isTen, h1, bnd_some, if_neg (by decide), show f_M_in x2 1 9 h = _ from M_in x2 (a := 1) (b := 9) (by decide) (by decide) h, if_neg h2, bnd_some, if_pos rfl]
  · refine ⟨-2, h, h, ?_, ?_, hr⟩
    · unfold f_C_seen
      by_cases q : x1 < 0
      · rw [if_pos q]
      · rw [if_neg q, if_pos (show 10 ≤ x1 from Classical.byContradiction fun z => h1 ((ge10 x1).mp ⟨q, z⟩))]
    · unfold f_M_seen
      rw [M_isTen, bnd_some, if_neg h1, if_pos rfl]
