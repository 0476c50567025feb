/-! PURE: sheets -/
theorem C_isSheet (u : Int32) (h : Hp) : f_C_isSheet u h = some (if inN u 4 = true then 1 else 0, h) := C_isLaw u h
theorem C_isForm (u : Int32) (h : Hp) : f_C_isForm u h = some (if inN u 3 = true then 1 else 0, h) := by
  have e0 : (0 : Int32).toInt = 0 := by decide
  have e2 : (2 : Int32).toInt = 2 := by decide
  unfold f_C_isForm
  simp only [lt_iff, e0, e2]
  by_cases h1 : u.toInt < 0
  · rw [if_pos h1, if_neg (by simp only [inN, decide_eq_true_eq]; omega)]
  · rw [if_neg h1]
    by_cases h2 : (2 : Int) < u.toInt
    · rw [if_pos h2, if_neg (by simp only [inN, decide_eq_true_eq]; omega)]
    · rw [if_neg h2, if_pos (by simp only [inN, decide_eq_true_eq]; omega)]
theorem M_isSheet (u : Int32) (h : Hp) : f_M_isSheet u h = some (if inN u 4 = true then 1 else 0, h) := M_isLaw u h
theorem M_form (u : Int32) (h : Hp) : f_M_in u 0 2 h = some (if inN u 3 = true then 1 else 0, h) := in_lit u (n := 2) (by omega) h
/-- a finding, of both -/
theorem found_ok {h : Hp} (hr : Rel h) (v : Int32) : Rel (hset (hset h 0 11 v) 31 24 v) := by
  refine two_ok hr (by omega) (by omega) ?_
  obtain ⟨v1, v2, v3, v4, v5⟩ := hr.2.1
  have z0 : ∀ k, k ≠ 11 → hset (hset h 0 11 v) 31 24 v 0 k = h 0 k := fun k hk => by rw [hset_ne (by omega), hset_ne (by omega)]
  have z31 : ∀ k, k ≠ 24 → hset (hset h 0 11 v) 31 24 v 31 k = h 31 k := fun k hk => by rw [hset_ne (by omega), hset_ne (by omega)]
  unfold RV
  rw [z0 7 (by omega), z0 8 (by omega), z0 9 (by omega), z0 10 (by omega), z31 5 (by omega), z31 6 (by omega), z31 7 (by omega), z31 8 (by omega), hset_eq, hset_ne (by omega), hset_eq]
  exact ⟨v1, v2, v3, v4, rfl⟩
theorem ix48 {s i : Nat} : (48 : Int32) * nI s + nI i = nI (48 * s + i) := by
  rw [show (48 : Int32) = nI 48 from rfl, pk_mul, nI_add]
theorem sheet_ok {h g : Hp} {s : Nat} (hr : Rel h) (hs : s < 4) (hk : ∀ b, b ≠ 23 + 2 * s → b ≠ 24 + 2 * s → b ≠ 41 → b ≠ 42 → b ≠ 43 → b ≠ 44 → b ≠ 45 → g b = h b) (h41 : ∀ t, t ≠ s → g 41 t = h 41 t) (h42 : ∀ t, t ≠ s → g 42 t = h 42 t) (h43 : ∀ t, t ≠ s → g 43 t = h 43 t) (h44 : ∀ j, (j < 48 * s ∨ 48 * s + 48 ≤ j) → g 44 j = h 44 j) (hn : ShR g s) : Rel g := by
  obtain ⟨r1, r2, r3, r4⟩ := hr
  have z : ∀ b, (b < 23 ∨ (31 ≤ b ∧ b < 41)) → g b = h b := fun b hb => hk b (by omega) (by omega) (by omega) (by omega) (by omega) (by omega) (by omega)
  refine ⟨r1.cg (by rw [z 1 (by omega)]) (by rw [z 31 (by omega)]) (z 2 (by omega)) (z 32 (by omega)) (by rw [z 0 (by omega)]) (z 3 (by omega)) (z 4 (by omega)) (z 5 (by omega)), r2.cg (fun k _ _ => by rw [z 0 (by omega)]) (fun k _ _ => by rw [z 31 (by omega)]) (by rw [z 31 (by omega)]), r3.cg (by rw [z 10 (by omega)]) (by rw [z 31 (by omega)]) (fun a _ _ => z a (by omega)) (fun a _ _ => z a (by omega)), fun t ht => ?_⟩
  by_cases e : t = s
  · subst e; exact hn
  · refine (r4 t ht).cg (h41 t e) (h42 t e) (h43 t e) (hk _ (by omega) (by omega) (by omega) (by omega) (by omega) (by omega) (by omega)) (hk _ (by omega) (by omega) (by omega) (by omega) (by omega) (by omega) (by omega)) (fun i hi => h44 _ ?_)
    omega
theorem C_renew {a z : Nat} {fm : Int32} {h : Hp} (hz : z ≤ 48) : ∃ h', f_Sh_renew a fm (nI z) h = some ((), h') ∧ (∀ b, b ≠ a → b ≠ a + 1 → h' b = h b) ∧ h' a 1 = 0 ∧ h' a 2 = fm ∧ h' a 3 = nI z ∧ (∀ i, i < z → h' (a + 1) i = 0) := by
  unfold f_Sh_renew
  have ej : jmin (nI z) 48 = nI z := by
    unfold jmin
    rw [if_neg (show ¬ (48 : Int32) < nI z from nI_nlt (a := 48) (b := z) hz (by omega))]
  rw [ej]
  generalize hg : hset (hset (hset h a 1 0) a 2 fm) a 3 (nI z) = g
  have g3 : g a 3 = nI z := by rw [← hg, hset_eq]
  have key : ∀ (j k m : Nat) (q : Hp), k + j = z → j < m → q a 3 = nI z → (∀ i, i < k → q (a + 1) i = 0) → ∃ h', l_Sh_renew_22 m a (nI k) q = some ((), h') ∧ (∀ b, b ≠ a + 1 → h' b = q b) ∧ ∀ i, i < z → h' (a + 1) i = 0 := by
    intro j
    induction j with
    | zero =>
      intro k m q hk hm q3 q0
      obtain ⟨m, rfl⟩ : ∃ m', m = m' + 1 := ⟨m - 1, by omega⟩
      rw [l_Sh_renew_22, q3, if_pos (nI_le (by omega) (by omega))]
      exact ⟨q, rfl, fun _ _ => rfl, fun i hi => q0 i (by omega)⟩
    | succ j ih =>
      intro k m q hk hm q3 q0
      obtain ⟨m, rfl⟩ : ∃ m', m = m' + 1 := ⟨m - 1, by omega⟩
      rw [l_Sh_renew_22, q3, if_neg (nI_ge (by omega) (by omega)), chk_nI (by omega) (by omega), ix_nI (by omega), nI_1]
      obtain ⟨h', e1, e2, e3⟩ := ih (k + 1) m (hset q (a + 1) k 0) (by omega) (by omega) (by rw [hset_ne (by omega)]; exact q3) (fun i hi => by
        by_cases e : i = k
        · subst e; rw [hset_eq]
        · rw [hset_ne (by omega)]; exact q0 i (by omega))
      exact ⟨h', e1, fun b hb => by rw [e2 b hb, hset_off hb], e3⟩
  obtain ⟨h', e1, e2, e3⟩ := key z 0 FUEL g (by omega) (by unfold FUEL; omega) g3 (fun i hi => absurd hi (Nat.not_lt_zero i))
  refine ⟨h', e1, fun b b1 b2 => ?_, ?_, ?_, ?_, e3⟩
  · rw [e2 b b2, ← hg, hset_off b1, hset_off b1, hset_off b1]
  · rw [e2 a (by omega), ← hg, hset_ne (by omega), hset_ne (by omega), hset_eq]
  · rw [e2 a (by omega), ← hg, hset_ne (by omega), hset_eq]
  · rw [e2 a (by omega), g3]
theorem M_zero {s : Nat} {r : Int32} (hs : s < 4) : ∀ (j k m : Nat) (q : Hp), k + j = 48 → j < m → (∀ i, i < k → q 44 (48 * s + i) = 0) → ∃ h', l_M_sheet_59 m (nI s) r (nI k) q = some (r, h') ∧ (∀ b, b ≠ 44 → h' b = q b) ∧ (∀ i, i < 48 → h' 44 (48 * s + i) = 0) ∧ (∀ i, (i < 48 * s ∨ 48 * s + 48 ≤ i) → h' 44 i = q 44 i) := by
  intro j
  induction j with
  | zero =>
    intro k m q hk hm q0
    obtain ⟨m, rfl⟩ : ∃ m', m = m' + 1 := ⟨m - 1, by omega⟩
    rw [l_M_sheet_59, if_pos (show (48 : Int32) ≤ nI k from nI_le (a := 48) (by omega) (by omega))]
    exact ⟨q, rfl, fun _ _ => rfl, fun i hi => q0 i (by omega), fun _ _ => rfl⟩
  | succ j ih =>
    intro k m q hk hm q0
    obtain ⟨m, rfl⟩ : ∃ m', m = m' + 1 := ⟨m - 1, by omega⟩
    rw [l_M_sheet_59, if_neg (show ¬ (48 : Int32) ≤ nI k from nI_ge (b := 48) (by omega) (by omega)), ix48, chk_nI (by omega) (by omega), ix_nI (by omega), nI_1]
    obtain ⟨h', e1, e2, e3, e4⟩ := ih (k + 1) m (hset q 44 (48 * s + k) 0) (by omega) (by omega) (fun i hi => by
      by_cases e : i = k
      · subst e; rw [hset_eq]
      · rw [hset_ne (by omega)]; exact q0 i (by omega))
    exact ⟨h', e1, fun b hb => by rw [e2 b hb, hset_off hb], e3, fun i hi => by rw [e4 i hi, hset_ne (by omega)]⟩
theorem ns {s : Nat} (h : s < 4) : inN (nI s) 4 = true := inN_nI h (by omega)
theorem op_sheet (x1 x2 x3 : Int32) : OpOK Rel (f_C_sheet x1 x2 x3) (f_M_sheet x1 x2 x3) := by
  intro h hr
  by_cases h1 : inN x1 4 = true
  · by_cases h2 : inN x2 3 = true
    · obtain ⟨s, hs, rfl⟩ := inN_ex h1 (by omega)
      obtain ⟨f, hf, rfl⟩ := inN_ex h2 (by omega)
      by_cases h3 : x3 ≤ 48
      · by_cases h4 : 0 ≤ x3
        · obtain ⟨z, hz, rfl⟩ : ∃ z, z ≤ 48 ∧ x3 = nI z := by
            rw [le_iff] at h3 h4
            have e0 : (0 : Int32).toInt = 0 := by decide
            have e48 : (48 : Int32).toInt = 48 := by decide
            rw [e48] at h3; rw [e0] at h4
            exact ⟨x3.toInt.toNat, by omega, by rw [eq_iff, nI_toInt (by omega)]; omega⟩
          obtain ⟨g, a1, a2, a3, a4, a5, a6⟩ := C_renew (a := 23 + 2 * s) (fm := nI f) (h := h) hz
          obtain ⟨g2, b1, b2, b3, b4⟩ := M_zero (s := s) (r := nI z) hs 48 0 FUEL (hset (hset (hset g 41 s 1) 42 s (nI f)) 43 s (nI z)) (by omega) (by unfold FUEL; omega) (fun i hi => absurd hi (Nat.not_lt_zero i))
          refine ⟨nI z, g, g2, ?_, ?_, ?_⟩
          · unfold f_C_sheet
            rw [C_isSheet, h1, bnd_some, if_neg (by decide), C_isForm, h2, bnd_some, if_neg (by decide), if_pos h3, if_pos h4, chk_nI hs (by omega), ix_nI (by omega), a1, bnd_some]
          · unfold f_M_sheet
            rw [M_isSheet, h1, bnd_some, if_neg (by decide), M_form, h2, bnd_some, if_neg (by decide), if_pos h3, if_pos h4, chk_nI hs (by omega), chk_nI hs (by omega), chk_nI hs (by omega), ix_nI (by omega)]
            exact b1
          · have w : ∀ b, b ≠ 41 → b ≠ 42 → b ≠ 43 → b ≠ 44 → g2 b = g b := fun b c1 c2 c3 c4 => by rw [b2 b c4, hset_off c3, hset_off c2, hset_off c1]
            refine sheet_ok hr hs (fun b c1 c2 c3 c4 c5 c6 c7 => by rw [w b c3 c4 c5 c6, a2 b c1 (by omega)]) (fun t ht => ?_) (fun t ht => ?_) (fun t ht => ?_) (fun j hj => ?_) ?_
            · rw [b2 41 (by omega), hset_ne (by omega), hset_ne (by omega), hset_ne (by omega), a2 41 (by omega) (by omega)]
            · rw [b2 42 (by omega), hset_ne (by omega), hset_ne (by omega), hset_ne (by omega), a2 42 (by omega) (by omega)]
            · rw [b2 43 (by omega), hset_ne (by omega), hset_ne (by omega), hset_ne (by omega), a2 43 (by omega) (by omega)]
            · rw [b4 j hj, hset_ne (by omega), hset_ne (by omega), hset_ne (by omega), a2 44 (by omega) (by omega)]
            · have w23 : g2 (23 + 2 * s) = g (23 + 2 * s) := w _ (by omega) (by omega) (by omega) (by omega)
              have w24 : g2 (24 + 2 * s) = g (24 + 2 * s) := w _ (by omega) (by omega) (by omega) (by omega)
              refine ⟨true, f, z, hf, hz, ?_, by rw [w23, a3]; rfl, by rw [w23, a4], ?_, by rw [w23, a5], ?_, fun i hi => ?_⟩
              · rw [b2 41 (by omega), hset_ne (by omega), hset_ne (by omega), hset_eq]; rfl
              · rw [b2 42 (by omega), hset_ne (by omega), hset_eq]
              · rw [b2 43 (by omega), hset_eq]
              · rw [w24, b3 i (by omega), show 24 + 2 * s = 23 + 2 * s + 1 by omega, a6 i hi]
        · refine ⟨(-10) - 5, hset h 0 11 5, hset (hset h 0 11 5) 31 24 5, ?_, ?_, found_ok hr 5⟩
          · unfold f_C_sheet f_C_found
            rw [C_isSheet, h1, bnd_some, if_neg (by decide), C_isForm, h2, bnd_some, if_neg (by decide), if_pos h3, if_neg h4, bnd_some]
          · unfold f_M_sheet f_M_meets
            rw [M_isSheet, h1, bnd_some, if_neg (by decide), M_form, h2, bnd_some, if_neg (by decide), if_pos h3, if_neg h4, bnd_some]
      · refine ⟨-2, h, h, ?_, ?_, hr⟩
        · unfold f_C_sheet
          rw [C_isSheet, h1, bnd_some, if_neg (by decide), C_isForm, h2, bnd_some, if_neg (by decide), if_neg h3]
        · unfold f_M_sheet
          rw [M_isSheet, h1, bnd_some, if_neg (by decide), M_form, h2, bnd_some, if_neg (by decide), if_neg h3]
    · refine ⟨-2, h, h, ?_, ?_, hr⟩
      · unfold f_C_sheet
        rw [C_isSheet, h1, bnd_some, if_neg (by decide), C_isForm, bnd_some, if_neg h2, if_pos rfl]
      · unfold f_M_sheet
        rw [M_isSheet, h1, bnd_some, if_neg (by decide), M_form, bnd_some, if_neg h2, if_pos rfl]
  · refine ⟨-2, h, h, ?_, ?_, hr⟩
    · unfold f_C_sheet
      rw [C_isSheet, bnd_some, if_neg h1, if_pos rfl]
    · unfold f_M_sheet
      rw [M_isSheet, bnd_some, if_neg h1, if_pos rfl]
theorem op_lose (x1 : Int32) : OpOK Rel (f_C_lose x1) (f_M_lose x1) := by
  intro h hr
  by_cases h1 : inN x1 4 = true
  · obtain ⟨s, hs, rfl⟩ := inN_ex h1 (by omega)
    obtain ⟨th, f, z, s1, s2, s3, s4, s5, s6, s7, s8, s9⟩ := hr.2.2.2 s hs
    cases th with
    | true =>
      refine ⟨nI z, hset h (23 + 2 * s) 1 1, hset (hset h (23 + 2 * s) 1 1) 41 s 0, ?_, ?_, ?_⟩
      · unfold f_C_lose
        rw [C_isSheet, h1, bnd_some, if_neg (by decide), chk_nI hs (by omega), ix_nI (by omega), s4, if_pos (by decide), chk_nI hs (by omega), chk_nI hs (by omega), hset_ne (by omega), s7]
      · unfold f_M_lose
        rw [M_isSheet, h1, bnd_some, if_neg (by decide), chk_nI hs (by omega), ix_nI (by omega), show (hset h (23 + 2 * s) 1 1) 41 s = 1 from by rw [hset_ne (by omega)]; exact s3, if_neg (by decide), chk_nI hs (by omega), chk_nI hs (by omega), hset_ne (by omega), hset_ne (by omega), s8]
      · refine sheet_ok hr hs (fun b c1 c2 c3 c4 c5 c6 c7 => by rw [hset_off c3, hset_off c1]) (fun t ht => by rw [hset_ne (by omega), hset_ne (by omega)]) (fun t ht => by rw [hset_ne (by omega), hset_ne (by omega)]) (fun t ht => by rw [hset_ne (by omega), hset_ne (by omega)]) (fun j hj => by rw [hset_ne (by omega), hset_ne (by omega)]) ⟨false, f, z, s1, s2, by rw [hset_eq]; rfl, by rw [hset_ne (by omega), hset_eq]; rfl, by rw [hset_ne (by omega), hset_ne (by omega)]; exact s5, by rw [hset_ne (by omega), hset_ne (by omega)]; exact s6, by rw [hset_ne (by omega), hset_ne (by omega)]; exact s7, by rw [hset_ne (by omega), hset_ne (by omega)]; exact s8, fun i hi => by rw [hset_ne (by omega), hset_ne (by omega), hset_ne (by omega), hset_ne (by omega)]; exact s9 i hi⟩
    | false =>
      refine ⟨(-10) - 1, hset h 0 11 1, hset (hset h 0 11 1) 31 24 1, ?_, ?_, found_ok hr 1⟩
      · unfold f_C_lose f_C_found
        rw [C_isSheet, h1, bnd_some, if_neg (by decide), chk_nI hs (by omega), ix_nI (by omega), s4, if_neg (by decide), bnd_some]
      · unfold f_M_lose f_M_meets
        rw [M_isSheet, h1, bnd_some, if_neg (by decide), chk_nI hs (by omega), ix_nI (by omega), show (hset h 0 11 1) 41 s = 0 from by rw [hset_ne (by omega)]; exact s3, if_pos rfl, bnd_some]
  · refine ⟨-2, h, h, ?_, ?_, hr⟩
    · unfold f_C_lose
      rw [C_isSheet, bnd_some, if_neg h1, if_pos rfl]
    · unfold f_M_lose
      rw [M_isSheet, bnd_some, if_neg h1, if_pos rfl]
