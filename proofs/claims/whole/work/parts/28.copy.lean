/-! PURE: copy -/
theorem cmp_gt {a b : Nat} (ha : a < 2 ^ 62) (hb : b < 2 ^ 62) : 0 < lg_cmp (lN a) (lN b) ↔ b < a := by
  have e2 : lN b < lN a ↔ b < a := pk_lLT (by omega) (by omega)
  unfold lg_cmp
  by_cases q : b < a
  · rw [if_pos (show lN a > lN b from e2.mpr q)]
    exact ⟨fun _ => q, fun _ => by decide⟩
  · rw [if_neg (show ¬ lN a > lN b from fun z => q (e2.mp z))]
    constructor
    · intro z
      split at z <;> exact absurd z (by decide)
    · intro z; exact absurd z q
theorem cmp_le {a b : Nat} (ha : a < 2 ^ 62) (hb : b < 2 ^ 62) : lg_cmp (lN a) (lN b) ≤ 0 ↔ a ≤ b := by
  have := cmp_gt ha hb
  constructor
  · intro z
    rcases Nat.lt_or_ge b a with q | q
    · exact absurd z (Int32.not_le.mpr (this.mpr q))
    · exact q
  · intro z
    exact Int32.not_lt.mp (fun w => by have := this.mp w; omega)
theorem ge0 {u : Int32} (h : ¬ u < 0) : ∃ k, k < 2 ^ 31 ∧ u = nI k := nI_of h
def runOK (z : Nat) (i n : Int32) : Bool := decide (¬ i < 0 ∧ ¬ n < 0 ∧ ix i + ix n ≤ z)
theorem Sh_hasRun {h : Hp} {a z : Nat} (i n : Int32) (hz : z ≤ 48) (h3 : h a 3 = nI z) : f_Sh_hasRun a i n h = some (if runOK z i n = true then 1 else 0, h) := by
  unfold f_Sh_hasRun runOK
  rw [h3]
  by_cases h1 : i < 0
  · rw [if_pos h1, if_neg (by simp [h1])]
  · rw [if_neg h1]
    by_cases h2 : n < 0
    · rw [if_pos h2, if_neg (by simp [h2])]
    · rw [if_neg h2]
      obtain ⟨a', ha, rfl⟩ := ge0 h1
      obtain ⟨b, hb, rfl⟩ := ge0 h2
      rw [ix_nI ha, ix_nI hb]
      by_cases h4 : z < a'
      · rw [if_pos (nI_lt h4 ha), if_neg (by simp only [decide_eq_true_eq]; omega)]
      · rw [if_neg (nI_nlt (by omega) (by omega)), pk_sub (by omega)]
        by_cases h5 : z - a' < b
        · rw [if_pos (nI_lt h5 hb), if_neg (by simp only [decide_eq_true_eq]; omega)]
        · rw [if_neg (nI_nlt (by omega) (by omega)), if_pos (by simp only [decide_eq_true_eq]; exact ⟨h1, h2, by omega⟩)]
theorem M_mv {s i n : Nat} {x3 x4 : Int32} {it : Nat → Int32} (hs : 48 * s + i + n ≤ 192) (hn : n ≤ 48) : ∀ (j k m : Nat) (h : Hp), k + j = n → j < m → h 44 = it → (∀ q, q < k → h 45 q = it (48 * s + i + q)) → ∃ h', l_M_copy_120 m (nI s) (nI i) x3 x4 (nI n) (nI k) h = l_M_copy_157 FUEL x3 x4 (nI n) 0 h' ∧ (∀ b, b ≠ 45 → h' b = h b) ∧ (∀ q, q < n → h' 45 q = it (48 * s + i + q)) := by
  intro j
  induction j with
  | zero =>
    intro k m h hk hm h44 h45
    obtain ⟨m, rfl⟩ : ∃ m', m = m' + 1 := ⟨m - 1, by omega⟩
    rw [l_M_copy_120, if_pos (nI_le (by omega) (by omega))]
    exact ⟨h, rfl, fun _ _ => rfl, fun q hq => h45 q (by omega)⟩
  | succ j ih =>
    intro k m h hk hm h44 h45
    obtain ⟨m, rfl⟩ : ∃ m', m = m' + 1 := ⟨m - 1, by omega⟩
    rw [l_M_copy_120, if_neg (nI_ge (by omega) (by omega)), ix48, nI_add, chk_nI (by omega) (by omega), chk_nI (by omega) (by omega), ix_nI (by omega), ix_nI (by omega), nI_1]
    obtain ⟨h', e1, e2, e3⟩ := ih (k + 1) m (hset h 45 k (h 44 (48 * s + i + k))) (by omega) (by omega) (by rw [hset_off (by omega)]; exact h44) (fun q hq => by
      by_cases e : q = k
      · subst e; rw [hset_eq, h44]
      · rw [hset_ne (by omega)]; exact h45 q (by omega))
    exact ⟨h', e1, fun b hb => by rw [e2 b hb, hset_off hb], e3⟩
theorem M_pt {t j0 n : Nat} {mv : Nat → Int32} (ht : 48 * t + j0 + n ≤ 192) (hn : n ≤ 48) : ∀ (j k m : Nat) (h : Hp), k + j = n → j < m → (∀ q, q < n → h 45 q = mv q) → ∃ h', l_M_copy_157 m (nI t) (nI j0) (nI n) (nI k) h = some (1, h') ∧ (∀ b, b ≠ 44 → h' b = h b) ∧ (∀ q, k ≤ q → q < n → h' 44 (48 * t + j0 + q) = mv q) ∧ (∀ q, (q < 48 * t + j0 + k ∨ 48 * t + j0 + n ≤ q) → h' 44 q = h 44 q) := by
  intro j
  induction j with
  | zero =>
    intro k m h hk hm h45
    obtain ⟨m, rfl⟩ : ∃ m', m = m' + 1 := ⟨m - 1, by omega⟩
    rw [l_M_copy_157, if_pos (nI_le (by omega) (by omega))]
    exact ⟨h, rfl, fun _ _ => rfl, fun q _ _ => by omega, fun _ _ => rfl⟩
  | succ j ih =>
    intro k m h hk hm h45
    obtain ⟨m, rfl⟩ : ∃ m', m = m' + 1 := ⟨m - 1, by omega⟩
    rw [l_M_copy_157, if_neg (nI_ge (by omega) (by omega)), ix48, nI_add, chk_nI (by omega) (by omega), chk_nI (by omega) (by omega), ix_nI (by omega), ix_nI (by omega), nI_1, h45 k (by omega)]
    obtain ⟨h', e1, e2, e3, e4⟩ := ih (k + 1) m (hset h 44 (48 * t + j0 + k) (mv k)) (by omega) (by omega) (fun q hq => by rw [hset_ne (by omega)]; exact h45 q hq)
    refine ⟨h', e1, fun b hb => by rw [e2 b hb, hset_off hb], fun q h1 h2 => ?_, fun q hq => by rw [e4 q (by omega), hset_ne (by omega)]⟩
    by_cases e : q = k
    · subst e; rw [e4 _ (by omega), hset_eq]
    · exact e3 q (by omega) h2
theorem op_copy (x1 x2 x3 x4 x5 : Int32) : OpOK Rel (f_C_copy x1 x2 x3 x4 x5) (f_M_copy x1 x2 x3 x4 x5) := by
  intro h hr
  by_cases h1 : inN x1 4 = true
  · by_cases h3 : inN x3 4 = true
    · obtain ⟨s, hs, rfl⟩ := inN_ex h1 (by omega)
      obtain ⟨t, ht, rfl⟩ := inN_ex h3 (by omega)
      obtain ⟨th, f, z, s1, s2, s3, s4, s5, s6, s7, s8, s9⟩ := id (hr.2.2.2 s hs)
      obtain ⟨th', f', z', t1, t2, t3, t4, t5, t6, t7, t8, t9⟩ := id (hr.2.2.2 t ht)
      have fin : ∀ v : Int32, (f_C_copy (nI s) x2 (nI t) x4 x5 h = some ((-10) - v, hset h 0 11 v)) → (f_M_copy (nI s) x2 (nI t) x4 x5 (hset h 0 11 v) = some ((-10) - v, hset (hset h 0 11 v) 31 24 v)) → ∃ r h1 h2, f_C_copy (nI s) x2 (nI t) x4 x5 h = some (r, h1) ∧ f_M_copy (nI s) x2 (nI t) x4 x5 h1 = some (r, h2) ∧ Rel h2 := fun v a b => ⟨_, _, _, a, b, found_ok hr v⟩
      have hz : ∀ v c, c ≠ 0 → (hset h 0 11 v) c = h c := fun v c hc => hset_off hc
      cases th with
      | false =>
        refine fin 1 ?_ ?_
        · unfold f_C_copy f_C_found
          rw [C_isSheet, h1, bnd_some, if_neg (by decide), C_isSheet, h3, bnd_some, if_neg (by decide), chk_nI hs (by omega), chk_nI ht (by omega), ix_nI (by omega), ix_nI (by omega), s4, if_neg (by decide), bnd_some]
        · unfold f_M_copy f_M_meets
          rw [M_isSheet, h1, bnd_some, if_neg (by decide), M_isSheet, h3, bnd_some, if_neg (by decide), chk_nI hs (by omega), ix_nI (by omega), hz 1 41 (by omega), s3, if_pos (by decide), bnd_some]
      | true =>
        cases th' with
        | false =>
          refine fin 1 ?_ ?_
          · unfold f_C_copy f_C_found
            rw [C_isSheet, h1, bnd_some, if_neg (by decide), C_isSheet, h3, bnd_some, if_neg (by decide), chk_nI hs (by omega), chk_nI ht (by omega), ix_nI (by omega), ix_nI (by omega), s4, if_pos (by decide), t4, if_neg (by decide), bnd_some]
          · unfold f_M_copy f_M_meets
            rw [M_isSheet, h1, bnd_some, if_neg (by decide), M_isSheet, h3, bnd_some, if_neg (by decide), chk_nI hs (by omega), ix_nI (by omega), hz 1 41 (by omega), s3, if_neg (by decide), chk_nI ht (by omega), ix_nI (by omega), t3, if_pos (by decide), bnd_some]
        | true =>
          by_cases hf : f = f'
          · subst hf
            have eC : f_C_copy (nI s) x2 (nI t) x4 x5 h = if (runOK z x2 x5 && runOK z' x4 x5) = true then bnd (acp h (23 + 2 * s + 1) (23 + 2 * t + 1) 48 48 x2 x4 x5) fun _ h16 => some (1, h16) else some ((-10) - 2, hset h 0 11 2) := by
              unfold f_C_copy f_C_found
              rw [C_isSheet, h1, bnd_some, if_neg (by decide), C_isSheet, h3, bnd_some, if_neg (by decide), chk_nI hs (by omega), chk_nI ht (by omega), ix_nI (by omega), ix_nI (by omega), s4, if_pos (by decide), t4, if_pos (by decide), s5, t5, if_pos rfl, Sh_hasRun x2 x5 s2 s7, bnd_some, Sh_hasRun x4 x5 t2 t7, bnd_some]
              cases runOK z x2 x5 <;> cases runOK z' x4 x5 <;> rfl
            have eM : ∀ g : Hp, (∀ c, 41 ≤ c → c ≤ 43 → g c = h c) → f_M_copy (nI s) x2 (nI t) x4 x5 g = if (runOK z x2 x5 && runOK z' x4 x5) = true then l_M_copy_120 FUEL (nI s) x2 (nI t) x4 x5 0 g else some ((-10) - 2, hset g 31 24 2) := by
              intro g hg
              unfold f_M_copy f_M_meets
              rw [M_isSheet, h1, bnd_some, if_neg (by decide), M_isSheet, h3, bnd_some, if_neg (by decide), chk_nI hs (by omega), ix_nI (by omega), ix_nI (by omega), hg 41 (by omega) (by omega), s3, if_neg (by decide), chk_nI ht (by omega), t3, if_neg (by decide), chk_nI hs (by omega), chk_nI ht (by omega), hg 42 (by omega) (by omega), s6, t6, if_pos rfl, chk_nI hs (by omega), chk_nI ht (by omega), hg 43 (by omega) (by omega), s8, t8]
              simp only [bnd_some]
              unfold runOK
              by_cases q2 : x2 < 0
              · rw [if_pos q2, if_neg (by simp [q2])]
              · rw [if_neg q2]
                by_cases q4 : x4 < 0
                · rw [if_pos q4, if_neg (by simp [q4])]
                · rw [if_neg q4]
                  by_cases q5 : x5 < 0
                  · rw [if_pos q5, if_neg (by simp [q5])]
                  · rw [if_neg q5]
                    obtain ⟨a, ha, rfl⟩ := ge0 q2
                    obtain ⟨b, hb, rfl⟩ := ge0 q4
                    obtain ⟨c, hc, rfl⟩ := ge0 q5
                    rw [ix_nI ha, ix_nI hb, ix_nI hc, nI_l ha, nI_l hb, nI_l hc, nI_l (by omega), nI_l (by omega), lN_add, lN_add]
                    by_cases w1 : z < a + c
                    · rw [if_pos ((cmp_gt (by omega) (by omega)).mpr w1), if_neg (by simp only [Bool.and_eq_true, decide_eq_true_eq]; omega)]
                    · rw [if_neg (fun w => w1 ((cmp_gt (by omega) (by omega)).mp w))]
                      by_cases w2 : b + c ≤ z'
                      · rw [if_pos ((cmp_le (by omega) (by omega)).mpr w2), if_pos (by simp only [Bool.and_eq_true, decide_eq_true_eq]; exact ⟨⟨q2, q5, by omega⟩, ⟨q4, q5, by omega⟩⟩)]
                      · rw [if_neg (fun w => w2 ((cmp_le (by omega) (by omega)).mp w)), if_neg (by simp only [Bool.and_eq_true, decide_eq_true_eq]; omega)]
            by_cases hok : (runOK z x2 x5 && runOK z' x4 x5) = true
            · obtain ⟨k1, k2⟩ := Bool.and_eq_true_iff.mp hok
              simp only [runOK, decide_eq_true_eq] at k1 k2
              rw [if_pos hok] at eC
              obtain ⟨q2, q5, w1⟩ := k1
              obtain ⟨q4, -, w2⟩ := k2
              obtain ⟨a, ha, rfl⟩ := ge0 q2
              obtain ⟨b, hb, rfl⟩ := ge0 q4
              obtain ⟨c, hc, rfl⟩ := ge0 q5
              rw [ix_nI ha, ix_nI hc] at w1
              rw [ix_nI hb, ix_nI hc] at w2
              unfold acp at eC
              rw [ix_nI ha, ix_nI hb, ix_nI hc, if_pos ⟨q2, q4, q5, by omega, by omega⟩, bnd_some] at eC
              generalize hgC : hcpy h (23 + 2 * s + 1) (23 + 2 * t + 1) a b c = gC at eC
              have zC : ∀ b', b' ≠ 24 + 2 * t → gC b' = h b' := fun b' hb' => by rw [← hgC]; unfold hcpy; rw [if_neg (by omega)]
              have cC : gC (24 + 2 * t) = va_cpy (h (24 + 2 * s)) (h (24 + 2 * t)) a b c := by
                rw [← hgC]; unfold hcpy
                rw [if_pos (by omega), show 23 + 2 * s + 1 = 24 + 2 * s by omega, show 23 + 2 * t + 1 = 24 + 2 * t by omega]
              have eM' := eM gC (fun c' h1 h2 => zC c' (by omega))
              rw [if_pos hok] at eM'
              obtain ⟨g1, e1, e2, e3⟩ := M_mv (s := s) (i := a) (n := c) (x3 := nI t) (x4 := nI b) (it := h 44) (by omega) (by omega) c 0 FUEL gC (by omega) (by unfold FUEL; omega) (zC 44 (by omega)) (fun q hq => absurd hq (Nat.not_lt_zero q))
              obtain ⟨g2, d1, d2, d3, d4⟩ := M_pt (t := t) (j0 := b) (n := c) (mv := fun q => h 44 (48 * s + a + q)) (by omega) (by omega) c 0 FUEL g1 (by omega) (by unfold FUEL; omega) e3
              have far_ : ∀ b' k, scr b' k = false → b' ≠ 24 + 2 * t → b' ≠ 44 → g2 b' k = h b' k := fun b' k hsc hb1 hb2 => by
                rw [d2 b' hb2, e2 b' (by rintro rfl; cases hsc), zC b' hb1]
              refine ⟨1, gC, g2, eC, ?_, ?_⟩
              · rw [eM', show (0 : Int32) = nI 0 from rfl, e1]; exact d1
              · have w23 : ∀ k, g2 (23 + 2 * t) k = h (23 + 2 * t) k := fun k => far_ _ k (scr_row (scr23 _ (by omega) (by omega)) (by omega) k) (by omega) (by omega)
                have w44 : ∀ q, (q < 48 * t + b ∨ 48 * t + b + c ≤ q) → g2 44 q = h 44 q := fun q hq => by rw [d4 q (by omega), e2 44 (by omega), zC 44 (by omega)]
                refine items_ok hr ht far_ (fun j hj => w44 j (by omega)) ⟨true, f, z', t1, t2, by rw [far_ 41 t rfl (by omega) (by omega)]; exact t3, by rw [w23]; exact t4, by rw [w23]; exact t5, by rw [far_ 42 t rfl (by omega) (by omega)]; exact t6, by rw [w23]; exact t7, by rw [far_ 43 t rfl (by omega) (by omega)]; exact t8, fun i hi => ?_⟩
                rw [d2 _ (by omega), e2 _ (by omega), cC]
                by_cases hin : b ≤ i ∧ i < b + c
                · rw [pk_cpy_in hin.1 hin.2, s9 _ (by omega), show 48 * t + i = 48 * t + b + (i - b) by omega, d3 (i - b) (by omega) (by omega)]
                  show h 44 _ = h 44 _
                  congr 1; omega
                · rw [pk_cpy_out (by omega), w44 _ (by omega)]; exact t9 i hi
            · rw [if_neg hok] at eC
              have eM' := eM (hset h 0 11 2) (fun c h1 h2 => hz 2 c (by omega))
              rw [if_neg hok] at eM'
              exact fin 2 eC eM'
          · refine fin 4 ?_ ?_
            · unfold f_C_copy f_C_found
              rw [C_isSheet, h1, bnd_some, if_neg (by decide), C_isSheet, h3, bnd_some, if_neg (by decide), chk_nI hs (by omega), chk_nI ht (by omega), ix_nI (by omega), ix_nI (by omega), s4, if_pos (by decide), t4, if_pos (by decide), s5, t5, if_neg (fun w => hf (nI_inj (by omega) (by omega) w)), bnd_some]
            · unfold f_M_copy f_M_meets
              rw [M_isSheet, h1, bnd_some, if_neg (by decide), M_isSheet, h3, bnd_some, if_neg (by decide), chk_nI hs (by omega), ix_nI (by omega), ix_nI (by omega), hz 4 41 (by omega), s3, if_neg (by decide), chk_nI ht (by omega), t3, if_neg (by decide), chk_nI hs (by omega), chk_nI ht (by omega), hz 4 42 (by omega), s6, t6, if_neg (fun w => hf (nI_inj (by omega) (by omega) w)), bnd_some]
    · refine ⟨-2, h, h, ?_, ?_, hr⟩
      · unfold f_C_copy
        rw [C_isSheet, h1, bnd_some, if_neg (by decide), C_isSheet, bnd_some, if_neg h3, if_pos rfl]
      · unfold f_M_copy
        rw [M_isSheet, h1, bnd_some, if_neg (by decide), M_isSheet, bnd_some, if_neg h3, if_pos rfl]
  · refine ⟨-2, h, h, ?_, ?_, hr⟩
    · unfold f_C_copy
      rw [C_isSheet, bnd_some, if_neg h1, if_pos rfl]
    · unfold f_M_copy
      rw [M_isSheet, bnd_some, if_neg h1, if_pos rfl]
