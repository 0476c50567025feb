/-! PURE: dew, write -/
theorem Ctx.cg {h g : Hp} {n : Nat} {x y : Nat → Nat} {thr hun rea : Nat} {hid flt : Int32} (c : Ctx h n x y thr hun rea hid flt) (e0 : ∀ k, 6 ≤ k → k ≤ 10 → g 0 k = h 0 k) (e3 : g 3 = h 3) (e4 : g 4 = h 4) (e5 : g 5 = h 5) (e31 : ∀ k, k ≤ 8 → g 31 k = h 31 k) (e32 : g 32 = h 32) : Ctx g n x y thr hun rea hid flt := by
  unfold Ctx
  rw [e3, e4, e5, e0 7 (by omega) (by omega), e0 8 (by omega) (by omega), e0 9 (by omega) (by omega), e0 10 (by omega) (by omega), e0 6 (by omega) (by omega), e31 5 (by omega), e31 6 (by omega), e31 7 (by omega), e31 8 (by omega), e31 1 (by omega), e32]
  exact c
theorem Ctx.f11 {h : Hp} {n : Nat} {x y : Nat → Nat} {thr hun rea : Nat} {hid flt : Int32} (c : Ctx h n x y thr hun rea hid flt) (v : Int32) : Ctx (hset h 0 11 v) n x y thr hun rea hid flt := c.cg (fun k _ _ => hset_ne (by omega)) (hset_off (by omega)) (hset_off (by omega)) (hset_off (by omega)) (fun k _ => hset_ne (by omega)) (hset_off (by omega))
/-- a finding told after the reference has read its pegs -/
theorem found_same {h g : Hp} (hr : Rel h) (v : Int32) (hs : Same (hset h 0 11 v) g) : Rel (hset g 31 24 v) := (found_ok hr v).same (hs.hset 31 24 v)
theorem ShR.same {h g : Hp} {s : Nat} (hr : ShR h s) (hs4 : s < 4) (hs : Same h g) : ShR g s := hr.cg (hs 41 s rfl) (hs 42 s rfl) (hs 43 s rfl) (hs.row _ (scr_row (scr23 _ (by omega) (by omega)) (by omega))) (hs.row _ (scr_row (scr23 _ (by omega) (by omega)) (by omega))) (fun i _ => hs 44 _ rfl)
theorem op_dew (x1 x2 x3 : Int32) : OpOK Rel (f_C_dew x1 x2 x3) (f_M_dew x1 x2 x3) := by
  intro h hr
  obtain ⟨n, x, y, thr, hun, rea, hid, flt, c⟩ := hr.ctx
  have hn := c.1.1
  by_cases hb : (inN x1 n && inN x2 4) = true
  · obtain ⟨b1, b2⟩ := Bool.and_eq_true_iff.mp hb
    obtain ⟨p, hp, rfl⟩ := inN_ex b1 (by omega)
    obtain ⟨l, hl, rfl⟩ := inN_ex b2 (by omega)
    by_cases h3 : inN x3 4 = true
    · obtain ⟨s, hs, rfl⟩ := inN_ex h3 (by omega)
      obtain ⟨th, f, z, s1, s2, s3, s4, s5, s6, s7, s8, s9⟩ := id (hr.2.2.2 s hs)
      cases th with
      | false =>
        obtain ⟨g, a1, a2, a3, a4⟩ := M_isWeb (c.f11 1) (nI p) (nI l)
        refine ⟨(-10) - 1, hset h 0 11 1, hset g 31 24 1, ?_, ?_, found_same hr 1 a2⟩
        · unfold f_C_dew f_C_found
          rw [C_can c, hb, bnd_some, if_neg (by decide), C_isSheet, h3, bnd_some, if_neg (by decide), chk_nI hs (by omega), ix_nI (by omega), s4, if_neg (by decide), bnd_some]
        · unfold f_M_dew f_M_meets
          rw [a1, hb, bnd_some, if_neg (by decide), M_isSheet, h3, bnd_some, if_neg (by decide), chk_nI hs (by omega), ix_nI (by omega), show g 41 s = 0 from by rw [a2 41 s rfl, hset_ne (by omega)]; exact s3, if_pos rfl, bnd_some]
      | true =>
        cases hbt : bt hid p with
        | true =>
          obtain ⟨g, a1, a2, a3, a4⟩ := M_isWeb c (nI p) (nI l)
          refine ⟨-3, h, g, ?_, ?_, hr.same a2⟩
          · unfold f_C_dew
            rw [C_can c, hb, bnd_some, if_neg (by decide), C_isSheet, h3, bnd_some, if_neg (by decide), chk_nI hs (by omega), ix_nI (by omega), s4, if_pos (by decide), C_isHidden c (by omega), hbt, bnd_some, if_neg (by decide)]
          · unfold f_M_dew f_M_dewOf
            rw [a1, hb, bnd_some, if_neg (by decide), M_isSheet, h3, bnd_some, if_neg (by decide), chk_nI hs (by omega), ix_nI (by omega), show g 41 s = 1 from by rw [a2 41 s rfl]; exact s3, if_neg (by decide), M_isHidden a4 (by omega), hbt, bnd_some, if_neg (by decide), bnd_some]
        | false =>
          obtain ⟨h1, g1, g2, g3, g4⟩ := C_layS c (Or.inl rfl) hp hl hid
          have hl10 := Nat.le_trans (webL_len (x := x) (y := y) (hun := hun) (thr := thr) (l := l) (wo := hid) hn hp) hn
          have c1 := c.same g4
          have eC := C_dewL c1 (a := 23 + 2 * s) (z := z) (it := fun i => h 44 (48 * s + i)) g2.2.1 g2.1 hl10 (fun k hk => rowP_lt hp hk) s2 (by rw [g3 _ (by omega) (by omega)]; exact s7) (fun i hi => by rw [g3 _ (by omega) (by omega), show 23 + 2 * s + 1 = 24 + 2 * s by omega]; exact s9 i hi) (if z ≤ (rowP x y n hun thr hid p l).length - 1 then z else (rowP x y n hun thr hid p l).length - 1) 0 FUEL (Nat.zero_add _) (by unfold FUEL; split <;> omega)
          obtain ⟨k1, a1, a2, a3, a4⟩ := M_isWeb c1 (nI p) (nI l)
          obtain ⟨k2, d1, d2, d3, d4, d5, d6⟩ := M_layS a4 a3 hp hl hid
          have hsm : Same h k2 := (g4.tr a2).tr d4
          have eM := M_dewL (s := s) (z := z) (it := fun i => h 44 (48 * s + i)) d5 hn hs d2.2.1 d2.1 hl10 (fun k hk => rowP_lt hp hk) s2 (by rw [hsm 43 s rfl]; exact s8) (fun i hi => hsm 44 _ rfl) (if z ≤ (rowP x y n hun thr hid p l).length - 1 then z else (rowP x y n hun thr hid p l).length - 1) 0 FUEL (Nat.zero_add _) (by unfold FUEL; split <;> omega)
          refine ⟨dewF (fun i => h 44 (48 * s + i)) x y (rowP x y n hun thr hid p l) (if z ≤ (rowP x y n hun thr hid p l).length - 1 then z else (rowP x y n hun thr hid p l).length - 1) 0, h1, k2, ?_, ?_, hr.same hsm⟩
          · unfold f_C_dew
            rw [C_can c, hb, bnd_some, if_neg (by decide), C_isSheet, h3, bnd_some, if_neg (by decide), chk_nI hs (by omega), ix_nI (by omega), s4, if_pos (by decide), C_isHidden c (by omega), hbt, bnd_some, if_pos (by decide), chk40, c.2.1.2.2.1, g1, bnd_some]
            exact eC
          · unfold f_M_dew f_M_dewOf
            rw [a1, hb, bnd_some, if_neg (by decide), M_isSheet, h3, bnd_some, if_neg (by decide), chk_nI hs (by omega), ix_nI (by omega), show k1 41 s = 1 from by rw [(g4.tr a2) 41 s rfl]; exact s3, if_neg (by decide), M_isHidden a4 (by omega), hbt, bnd_some, if_pos (by decide), a4.2.2.1.1, d1, bnd_some, show l_M_dewOf_24 FUEL (nI s) 0 k2 = _ from eM, bnd_some]
    · obtain ⟨g, a1, a2, a3, a4⟩ := M_isWeb c (nI p) (nI l)
      refine ⟨-2, h, g, ?_, ?_, hr.same a2⟩
      · unfold f_C_dew
        rw [C_can c, hb, bnd_some, if_neg (by decide), C_isSheet, bnd_some, if_neg h3, if_pos rfl]
      · unfold f_M_dew
        rw [a1, hb, bnd_some, if_neg (by decide), M_isSheet, bnd_some, if_neg h3, if_pos rfl]
  · obtain ⟨g, a1, a2, a3, a4⟩ := M_isWeb c x1 x2
    refine ⟨-2, h, g, ?_, ?_, hr.same a2⟩
    · unfold f_C_dew
      rw [C_can c, bnd_some, if_neg hb, if_pos rfl]
    · unfold f_M_dew
      rw [a1, bnd_some, if_neg hb, if_pos rfl]
/-- one sheet's items have changed in both, the rest but for scratch has not -/
theorem items_ok {h g : Hp} {s : Nat} (hr : Rel h) (hs : s < 4) (hk : ∀ b k, scr b k = false → b ≠ 24 + 2 * s → b ≠ 44 → g b k = h b k) (h44 : ∀ j, (j < 48 * s ∨ 48 * s + 48 ≤ j) → g 44 j = h 44 j) (hn : ShR g s) : Rel g := by
  let q : Hp := fun b => if b = 24 + 2 * s then h b else if b = 44 then h 44 else g b
  have hq : Same h q := by
    intro b k hb
    show (if b = 24 + 2 * s then h b else if b = 44 then h 44 else g b) k = h b k
    by_cases e1 : b = 24 + 2 * s
    · rw [if_pos e1]
    · rw [if_neg e1]
      by_cases e2 : b = 44
      · rw [if_pos e2, e2]
      · rw [if_neg e2]; exact hk b k hb e1 e2
  have qo : ∀ b, b ≠ 24 + 2 * s → b ≠ 44 → q b = g b := fun b e1 e2 => by
    show (if b = 24 + 2 * s then h b else if b = 44 then h 44 else g b) = g b
    rw [if_neg e1, if_neg e2]
  refine sheet_ok (hr.same hq) hs (fun b c1 c2 c3 c4 c5 c6 c7 => (qo b c2 c6).symm) (fun t _ => by rw [qo 41 (by omega) (by omega)]) (fun t _ => by rw [qo 42 (by omega) (by omega)]) (fun t _ => by rw [qo 43 (by omega) (by omega)]) (fun j hj => ?_) hn
  rw [h44 j hj]
  show h 44 j = (if 44 = 24 + 2 * s then h 44 else if 44 = 44 then h 44 else g 44) j
  rw [if_neg (by omega), if_pos rfl]
def wrF (X : Nat → Int32) (R : List Nat) (f c : Nat) (off : Nat) : Nat → Int32 := fun j => if off ≤ j ∧ j < off + c then nar f (nI (R.getD (j - off) 0)) else X j
theorem C_wrL {a f z N : Nat} {R : List Nat} (hf : f < 3) (hz : z ≤ 48) (hl10 : R.length ≤ 10) (hN : N ≤ z ∧ N ≤ R.length) (ha : a ≠ 15 ∧ a ≠ 16 ∧ a + 1 ≠ 15 ∧ a + 1 ≠ 16) : ∀ (j k m : Nat) (h : Hp), k + j = N → j < m → RowAt (h 16) R → h a 2 = nI f → h a 3 = nI z → ∃ h', l_C_write_92 m a 15 (nI N) (nI k) h = some (nI N, h') ∧ (∀ b, b ≠ a + 1 → h' b = h b) ∧ (∀ i, k ≤ i → i < N → h' (a + 1) i = nar f (nI (R.getD i 0))) ∧ (∀ i, (i < k ∨ N ≤ i) → h' (a + 1) i = h (a + 1) i) := by
  intro j
  induction j with
  | zero =>
    intro k m h hk hm hR h2 h3
    obtain ⟨m, rfl⟩ : ∃ m', m = m' + 1 := ⟨m - 1, by omega⟩
    rw [l_C_write_92, if_pos (nI_le (by omega) (by omega))]
    exact ⟨h, rfl, fun _ _ => rfl, fun i _ _ => by omega, fun _ _ => rfl⟩
  | succ j ih =>
    intro k m h hk hm hR h2 h3
    obtain ⟨m, rfl⟩ : ∃ m', m = m' + 1 := ⟨m - 1, by omega⟩
    rw [l_C_write_92, if_neg (nI_ge (by omega) (by omega)), chk_nI (by omega) (by omega), ix_nI (by omega), show h (15 + 1) k = _ from hR.at (by omega), Sh_store _ hf hz (by omega) h2 h3, bnd_some, nI_1]
    obtain ⟨h', e1, e2, e3, e4⟩ := ih (k + 1) m (hset h (a + 1) k (nar f (nI (R.getD k 0)))) (by omega) (by omega) (by rw [hset_off (by omega)]; exact hR) (by rw [hset_ne (by omega)]; exact h2) (by rw [hset_ne (by omega)]; exact h3)
    refine ⟨h', e1, fun b hb => by rw [e2 b hb, hset_off hb], fun i hi1 hi2 => ?_, fun i hi => by rw [e4 i (by omega), hset_ne (by omega)]⟩
    by_cases e : i = k
    · subst e; rw [e4 i (by omega), hset_eq]
    · exact e3 i (by omega) hi2
theorem M_wrL {s f z : Nat} {R : List Nat} (hs : s < 4) (hf : f < 3) (hz : z ≤ 48) (hl10 : R.length ≤ 10) : ∀ (j k m : Nat) (h : Hp), k + j = (if z ≤ R.length then z else R.length) → j < m → RowAt (h 35) R → h 31 10 = nI R.length → h 42 s = nI f → h 43 s = nI z → ∃ h', l_M_write_58 m (nI s) (nI k) h = some (nI (if z ≤ R.length then z else R.length), h') ∧ (∀ b, b ≠ 44 → h' b = h b) ∧ (∀ i, k ≤ i → i < (if z ≤ R.length then z else R.length) → h' 44 (48 * s + i) = nar f (nI (R.getD i 0))) ∧ (∀ i, (i < 48 * s + k ∨ 48 * s + (if z ≤ R.length then z else R.length) ≤ i) → h' 44 i = h 44 i) := by
  intro j
  induction j with
  | zero =>
    intro k m h hk hm hR hl h2 h3
    obtain ⟨m, rfl⟩ : ∃ m', m = m' + 1 := ⟨m - 1, by omega⟩
    refine ⟨h, ?_, fun _ _ => rfl, fun i _ _ => by omega, fun _ _ => rfl⟩
    rw [l_M_write_58, chk_nI hs (by omega), ix_nI (by omega), h3, hl]
    have ek : k = (if z ≤ R.length then z else R.length) := by omega
    by_cases hc : z ≤ k
    · rw [if_pos (nI_le hc (by split at ek <;> omega)), ← ek]
    · rw [if_neg (nI_ge (by omega) (by omega)), if_pos (nI_le (by split at ek <;> omega) (by omega)), ← ek]
  | succ j ih =>
    intro k m h hk hm hR hl h2 h3
    have hk1 : k < z ∧ k < R.length := by split at hk <;> omega
    obtain ⟨m, rfl⟩ : ∃ m', m = m' + 1 := ⟨m - 1, by omega⟩
    rw [l_M_write_58, chk_nI hs (by omega), ix_nI (by omega), h3, hl, if_neg (nI_ge hk1.1 (by omega)), if_neg (nI_ge hk1.2 (by omega)), chk_nI (by omega) (by omega), ix_nI (by omega), hR.at hk1.2, M_keep _ hs hf (by omega) h2, bnd_some, nI_1]
    obtain ⟨h', e1, e2, e3, e4⟩ := ih (k + 1) m (hset h 44 (48 * s + k) (nar f (nI (R.getD k 0)))) (by omega) (by omega) (by rw [hset_off (by omega)]; exact hR) (by rw [hset_ne (by omega)]; exact hl) (by rw [hset_ne (by omega)]; exact h2) (by rw [hset_ne (by omega)]; exact h3)
    refine ⟨h', e1, fun b hb => by rw [e2 b hb, hset_off hb], fun i hi1 hi2 => ?_, fun i hi => by rw [e4 i (by omega), hset_ne (by omega)]⟩
    by_cases e : i = k
    · subst e; rw [e4 _ (by omega), hset_eq]
    · exact e3 i (by omega) hi2
theorem op_write (x1 x2 x3 : Int32) : OpOK Rel (f_C_write x1 x2 x3) (f_M_write x1 x2 x3) := by
  intro h hr
  obtain ⟨n, x, y, thr, hun, rea, hid, flt, c⟩ := hr.ctx
  have hn := c.1.1
  by_cases hb : (inN x1 n && inN x2 4) = true
  · obtain ⟨b1, b2⟩ := Bool.and_eq_true_iff.mp hb
    obtain ⟨p, hp, rfl⟩ := inN_ex b1 (by omega)
    obtain ⟨l, hl, rfl⟩ := inN_ex b2 (by omega)
    by_cases h3 : inN x3 4 = true
    · obtain ⟨s, hs, rfl⟩ := inN_ex h3 (by omega)
      obtain ⟨th, f, z, s1, s2, s3, s4, s5, s6, s7, s8, s9⟩ := id (hr.2.2.2 s hs)
      cases th with
      | false =>
        obtain ⟨g, a1, a2, a3, a4⟩ := M_isWeb (c.f11 1) (nI p) (nI l)
        refine ⟨(-10) - 1, hset h 0 11 1, hset g 31 24 1, ?_, ?_, found_same hr 1 a2⟩
        · unfold f_C_write f_C_found
          rw [C_can c, hb, bnd_some, if_neg (by decide), C_isSheet, h3, bnd_some, if_neg (by decide), chk_nI hs (by omega), ix_nI (by omega), s4, if_neg (by decide), bnd_some]
        · unfold f_M_write f_M_meets
          rw [a1, hb, bnd_some, if_neg (by decide), M_isSheet, h3, bnd_some, if_neg (by decide), chk_nI hs (by omega), ix_nI (by omega), show g 41 s = 0 from by rw [a2 41 s rfl, hset_ne (by omega)]; exact s3, if_pos rfl, bnd_some]
      | true =>
        cases hbt : bt hid p with
        | true =>
          obtain ⟨g, a1, a2, a3, a4⟩ := M_isWeb c (nI p) (nI l)
          refine ⟨-3, h, g, ?_, ?_, hr.same a2⟩
          · unfold f_C_write
            rw [C_can c, hb, bnd_some, if_neg (by decide), C_isSheet, h3, bnd_some, if_neg (by decide), chk_nI hs (by omega), ix_nI (by omega), s4, if_pos (by decide), C_isHidden c (by omega), hbt, bnd_some, if_neg (by decide)]
          · unfold f_M_write
            rw [a1, hb, bnd_some, if_neg (by decide), M_isSheet, h3, bnd_some, if_neg (by decide), chk_nI hs (by omega), ix_nI (by omega), show g 41 s = 1 from by rw [a2 41 s rfl]; exact s3, if_neg (by decide), M_isHidden a4 (by omega), hbt, bnd_some, if_neg (by decide)]
        | false =>
          obtain ⟨h1, g1, g2, g3, g4⟩ := C_layS c (Or.inl rfl) hp hl hid
          have hl10 := Nat.le_trans (webL_len (x := x) (y := y) (hun := hun) (thr := thr) (l := l) (wo := hid) hn hp) hn
          generalize hRR : (p :: webL x y n hun thr l p hid) = R at g2 hl10
          have eN : (if z ≤ R.length then z else R.length) ≤ z ∧ (if z ≤ R.length then z else R.length) ≤ R.length := by split <;> omega
          have r2 : h1 (23 + 2 * s) 2 = nI f := by rw [g3 _ (by omega) (by omega)]; exact s5
          have r3 : h1 (23 + 2 * s) 3 = nI z := by rw [g3 _ (by omega) (by omega)]; exact s7
          obtain ⟨hC, e1, e2, e3, e4⟩ := C_wrL (a := 23 + 2 * s) s1 s2 hl10 eN (by omega) (if z ≤ R.length then z else R.length) 0 FUEL h1 (by omega) (by unfold FUEL; omega) g2.2.1 r2 r3
          have c1 : Ctx hC n x y thr hun rea hid flt := (c.same g4).cg (fun k _ _ => by rw [e2 0 (by omega)]) (e2 3 (by omega)) (e2 4 (by omega)) (e2 5 (by omega)) (fun k _ => by rw [e2 31 (by omega)]) (e2 32 (by omega))
          obtain ⟨k1, a1, a2, a3, a4⟩ := M_isWeb c1 (nI p) (nI l)
          obtain ⟨k2, d1, d2, d3, d4, d5, d6⟩ := M_layS a4 a3 hp hl hid
          rw [hRR] at d2
          have hsm : Same hC k2 := a2.tr d4
          obtain ⟨hM, m1, m2, m3, m4⟩ := M_wrL (s := s) (f := f) (z := z) (R := R) hs s1 s2 hl10 (if z ≤ R.length then z else R.length) 0 FUEL k2 (by omega) (by unfold FUEL; omega) d2.2.1 d2.1 (by rw [hsm 42 s rfl, e2 42 (by omega), g4 42 s rfl]; exact s6) (by rw [hsm 43 s rfl, e2 43 (by omega), g4 43 s rfl]; exact s8)
          have far_ : ∀ b k, scr b k = false → b ≠ 24 + 2 * s → b ≠ 44 → hM b k = h b k := fun b k hsc b1 b2 => by
            rw [m2 b b2, hsm b k hsc, e2 b (by omega), g4 b k hsc]
          refine ⟨nI (if z ≤ R.length then z else R.length), hC, hM, ?_, ?_, ?_⟩
          · unfold f_C_write
            rw [C_can c, hb, bnd_some, if_neg (by decide), C_isSheet, h3, bnd_some, if_neg (by decide), chk_nI hs (by omega), ix_nI (by omega), s4, if_pos (by decide), C_isHidden c (by omega), hbt, bnd_some, if_pos (by decide), chk40, c.2.1.2.2.1, g1, bnd_some, r3, g2.1, jmin_nI (by omega) (by omega)]
            exact e1
          · unfold f_M_write
            rw [a1, hb, bnd_some, if_neg (by decide), M_isSheet, h3, bnd_some, if_neg (by decide), chk_nI hs (by omega), ix_nI (by omega), show k1 41 s = 1 from by rw [a2 41 s rfl, e2 41 (by omega), g4 41 s rfl]; exact s3, if_neg (by decide), M_isHidden a4 (by omega), hbt, bnd_some, if_pos (by decide), a4.2.2.1.1, d1, bnd_some]
            exact m1
          · have w23 : ∀ k, hM (23 + 2 * s) k = h (23 + 2 * s) k := fun k => far_ _ k (scr_row (scr23 _ (by omega) (by omega)) (by omega) k) (by omega) (by omega)
            have w24 : hM (24 + 2 * s) = hC (24 + 2 * s) := by rw [m2 _ (by omega)]; exact hsm.row _ (scr_row (scr23 _ (by omega) (by omega)) (by omega))
            refine items_ok hr hs far_ (fun j hj => ?_) ⟨true, f, z, s1, s2, by rw [far_ 41 s rfl (by omega) (by omega)]; exact s3, by rw [w23]; exact s4, by rw [w23]; exact s5, by rw [far_ 42 s rfl (by omega) (by omega)]; exact s6, by rw [w23]; exact s7, by rw [far_ 43 s rfl (by omega) (by omega)]; exact s8, fun i hi => ?_⟩
            · rw [m4 j (by omega), hsm 44 j rfl, e2 44 (by omega), g4 44 j rfl]
            · rw [w24, show 24 + 2 * s = 23 + 2 * s + 1 by omega]
              by_cases hc : i < (if z ≤ R.length then z else R.length)
              · rw [e3 i (by omega) hc, m3 i (by omega) hc]
              · rw [e4 i (by omega), m4 _ (by omega), hsm 44 _ rfl, e2 44 (by omega), g4 44 _ rfl, g3 _ (by omega) (by omega), show 23 + 2 * s + 1 = 24 + 2 * s by omega]
                exact s9 i hi
    · obtain ⟨g, a1, a2, a3, a4⟩ := M_isWeb c (nI p) (nI l)
      refine ⟨-2, h, g, ?_, ?_, hr.same a2⟩
      · unfold f_C_write
        rw [C_can c, hb, bnd_some, if_neg (by decide), C_isSheet, bnd_some, if_neg h3, if_pos rfl]
      · unfold f_M_write
        rw [a1, hb, bnd_some, if_neg (by decide), M_isSheet, bnd_some, if_neg h3, if_pos rfl]
  · obtain ⟨g, a1, a2, a3, a4⟩ := M_isWeb c x1 x2
    refine ⟨-2, h, g, ?_, ?_, hr.same a2⟩
    · unfold f_C_write
      rw [C_can c, bnd_some, if_neg hb, if_pos rfl]
    · unfold f_M_write
      rw [a1, bnd_some, if_neg hb, if_pos rfl]
