theorem nI_inj {a b : Nat} (ha : a < 2 ^ 31) (hb : b < 2 ^ 31) (h : nI a = nI b) : a = b := (nI_eq ha hb).mp h
/-! PURE: both readings of the text come to parse -/
def pfr (h h' : Hp) : Prop := (∀ b, b ≠ 31 → b ≠ 33 → b ≠ 34 → h' b = h b) ∧ ∀ k, k ≠ 2 → h' 31 k = h 31 k
theorem pfr.rf (h : Hp) : pfr h h := ⟨fun _ _ _ _ => rfl, fun _ _ => rfl⟩
theorem pfr.tr {a b c : Hp} (h1 : pfr a b) (h2 : pfr b c) : pfr a c := ⟨fun q g1 g2 g3 => (h2.1 q g1 g2 g3).trans (h1.1 q g1 g2 g3), fun k g1 => (h2.2 k g1).trans (h1.2 k g1)⟩
theorem M_fault_loop {tx : Nat → Int32} {tl : Nat} (htl : tl ≤ 40) : ∀ (f i : Nat) (h : Hp) (m : Nat), i + f = 10 → f < m → (0 < tl ∨ 0 < i) → h 32 = tx → h 31 1 = nI tl → h 31 2 = nI 0 → (∀ k, k < i → h 33 k = pxX tx k ∧ h 34 k = pxY tx k) →
    ∃ h', l_M_faultNow_9 m (nI i) (nI (3 * i)) h = some ((pz tx tl f i).1, h') ∧ h' 31 2 = nI (pz tx tl f i).2 ∧ (∀ k, k < (pz tx tl f i).2 → h' 33 k = pxX tx k ∧ h' 34 k = pxY tx k) ∧ pfr h h' := by
  intro f
  induction f with
  | zero =>
    intro i h m hi hm h0 ht hty hpg hx
    obtain ⟨m, rfl⟩ : ∃ m', m = m' + 1 := ⟨m - 1, by omega⟩
    have e10 : i = 10 := by omega
    subst e10
    refine ⟨h, ?_, hpg, fun k hk => absurd hk (Nat.not_lt_zero k), pfr.rf h⟩
    rw [l_M_faultNow_9, hty]
    by_cases h3 : 3 * 10 < tl
    · rw [if_pos (nI_lt h3 (by omega)), M_figureAt hty htl (by omega), bnd_some, nI_1, M_figureAt hty htl (by omega), bnd_some, if_pos (show nI 10 = 10 from rfl)]
      rfl
    · rw [if_neg (nI_nlt (by omega) (by omega)), if_neg (nI_nle (by omega) (by omega)), M_figureAt hty htl (by omega), bnd_some, nI_1, M_figureAt hty htl (by omega), bnd_some, if_pos (show nI 10 = 10 from rfl)]
      rfl
  | succ f ih =>
    intro i h m hi hm h0 ht hty hpg hx
    obtain ⟨m, rfl⟩ : ∃ m', m = m' + 1 := ⟨m - 1, by omega⟩
    have n10 : ¬ nI i = 10 := fun z => by have := nI_inj (a := i) (b := 10) (by omega) (by omega) z; omega
    have e2 : nI (3 * i) + 2 = nI (3 * i + 2) := nI_add (3 * i) 2
    by_cases h3 : 3 * i < tl
    · rw [l_M_faultNow_9, hty, if_pos (nI_lt h3 (by omega)), M_figureAt hty htl (by omega), bnd_some, nI_1, M_figureAt hty htl (by omega), bnd_some, if_neg n10, ht]
      by_cases d1 : dg (tx (3 * i)) = true
      · have hq1 : (3 * i < tl ∧ dg (tx (3 * i)) = true) := ⟨h3, d1⟩
        rw [if_pos hq1, if_neg (figm1 d1), pz, if_pos hq1]
        by_cases d2 : 3 * i + 1 < tl ∧ dg (tx (3 * i + 1)) = true
        · rw [if_pos d2, if_neg (figm1 d2.2), M_isTaken (by omega), bnd_some, tak_congr (X' := pxX tx) (Y' := pxY tx) hx]
          rw [show tx (3 * i) - 48 = pxX tx i from rfl, show tx (3 * i + 1) - 48 = pxY tx i from rfl]
          cases ht2 : tak (pxX tx) (pxY tx) (pxX tx i) (pxY tx i) i with
          | true =>
            rw [if_neg (show ¬ (if true = true then (1 : Int32) else 0) = 0 by decide), if_neg (show ¬ (3 * i + 1 < tl ∧ dg (tx (3 * i + 1)) = true ∧ true = false) from fun z => by have := z.2.2; cases this)]
            exact ⟨h, rfl, hpg, fun k hk => absurd hk (Nat.not_lt_zero k), pfr.rf h⟩
          | false =>
            rw [if_pos (show (if false = true then (1 : Int32) else 0) = 0 from rfl), if_pos (show 3 * i + 1 < tl ∧ dg (tx (3 * i + 1)) = true ∧ false = false from ⟨d2.1, d2.2, rfl⟩), chk_nI (by omega) (by omega), chk_nI (by omega) (by omega), ix_nI (by omega), e2]
            generalize hh1 : hset (hset h 33 i (pxX tx i)) 34 i (pxY tx i) = h1
            have hp1 : pfr h h1 := ⟨fun b b1 b2 b3 => by rw [← hh1, hset_off b3, hset_off b2], fun k _ => by rw [← hh1, hset_ne (by omega), hset_ne (by omega)]⟩
            have hx1 : ∀ k, k < i + 1 → h1 33 k = pxX tx k ∧ h1 34 k = pxY tx k := by
              intro k hk
              rw [← hh1]
              by_cases e : k = i
              · subst e; exact ⟨by rw [hset_ne (by omega), hset_eq], by rw [hset_eq]⟩
              · exact ⟨by rw [hset_ne (by omega), hset_ne (by omega)]; exact (hx k (by omega)).1, by rw [hset_ne (by omega), hset_ne (by omega)]; exact (hx k (by omega)).2⟩
            have hty1 : h1 31 1 = nI tl := by rw [hp1.2 1 (by omega)]; exact hty
            have ht1 : h1 32 = tx := by rw [hp1.1 32 (by omega) (by omega) (by omega)]; exact ht
            rw [hty1, ht1]
            by_cases e3 : 3 * i + 2 = tl
            · rw [if_pos (by rw [e3]), if_pos e3, nI_1]
              refine ⟨_, rfl, hset_eq _ _ _ _, fun k hk => ?_, hp1.tr ⟨fun b b1 b2 b3 => hset_off b1, fun k hk => hset_ne (by omega)⟩⟩
              rw [hset_ne (by omega), hset_ne (by omega)]
              exact hx1 k hk
            · rw [if_neg (fun z => e3 (nI_inj (by omega) (by omega) z)), if_neg e3, chk_nI (by omega) (by omega), ix_nI (by omega)]
              by_cases e4 : tx (3 * i + 2) = 59
              · rw [if_pos e4, if_pos e4, nI_1, nI_1, show 3 * i + 2 + 1 = 3 * (i + 1) by omega]
                obtain ⟨h2, g1, g2, g3, g4⟩ := ih (i + 1) h1 m (by omega) (by omega) (Or.inr (by omega)) ht1 hty1 (by rw [← hh1, hset_ne (by omega), hset_ne (by omega)]; exact hpg) hx1
                exact ⟨h2, g1, g2, g3, hp1.tr g4⟩
              · rw [if_neg e4, if_neg e4]
                exact ⟨h1, rfl, by rw [← hh1, hset_ne (by omega), hset_ne (by omega)]; exact hpg, fun k hk => absurd hk (Nat.not_lt_zero k), hp1⟩
        · rw [if_neg d2, if_pos (show (-1 : Int32) = -1 from rfl), if_neg (show ¬ (3 * i + 1 < tl ∧ dg (tx (3 * i + 1)) = true ∧ tak (pxX tx) (pxY tx) (pxX tx i) (pxY tx i) i = false) from fun z => d2 ⟨z.1, z.2.1⟩)]
          exact ⟨h, rfl, hpg, fun k hk => absurd hk (Nat.not_lt_zero k), pfr.rf h⟩
      · have q1 : ¬ (3 * i < tl ∧ dg (tx (3 * i)) = true) := fun z => d1 z.2
        rw [if_neg q1, if_pos (show (-1 : Int32) = -1 from rfl), pz, if_neg q1]
        exact ⟨h, rfl, hpg, fun k hk => absurd hk (Nat.not_lt_zero k), pfr.rf h⟩
    · have hi0 : 0 < i := by omega
      have q1 : ¬ (3 * i < tl ∧ dg (tx (3 * i)) = true) := fun z => h3 z.1
      rw [l_M_faultNow_9, hty, if_neg (nI_nlt (by omega) (by omega)), if_neg (nI_nle (by omega) (by omega)), M_figureAt hty htl (by omega), bnd_some, nI_1, M_figureAt hty htl (by omega), bnd_some, if_neg n10, ht, if_neg q1, if_pos (show (-1 : Int32) = -1 from rfl), pz, if_neg q1]
      exact ⟨h, rfl, hpg, fun k hk => absurd hk (Nat.not_lt_zero k), pfr.rf h⟩
theorem M_faultNow {tl : Nat} {h : Hp} (htl : tl ≤ 40) (hty : h 31 1 = nI tl) :
    ∃ h', f_M_faultNow h = some ((parse (h 32) tl).1, h') ∧ h' 31 2 = nI (parse (h 32) tl).2 ∧ (∀ k, k < (parse (h 32) tl).2 → h' 33 k = pxX (h 32) k ∧ h' 34 k = pxY (h 32) k) ∧ pfr h h' := by
  unfold f_M_faultNow
  have hp1 : pfr h (hset h 31 2 0) := ⟨fun b b1 b2 b3 => hset_off b1, fun k hk => hset_ne (by omega)⟩
  have hty1 : (hset h 31 2 0) 31 1 = nI tl := by rw [hset_ne (by omega)]; exact hty
  have hpg1 : (hset h 31 2 0) 31 2 = nI 0 := by rw [hset_eq]; rfl
  by_cases h0 : tl = 0
  · subst h0
    refine ⟨hset h 31 2 0, ?_, ?_, fun k hk => absurd hk (Nat.not_lt_zero k), hp1⟩
    · show l_M_faultNow_9 (4999 + 1) 0 0 (hset h 31 2 0) = _
      rw [l_M_faultNow_9, hty1, if_neg (show ¬ (0 : Int32) < nI 0 by decide), if_pos (show (0 : Int32) ≤ 0 by decide)]
      rfl
    · rw [hpg1]; rfl
  · have ep : parse (h 32) tl = pz (h 32) tl 10 0 := by rw [parse, if_neg h0]
    rw [ep]
    obtain ⟨h2, g1, g2, g3, g4⟩ := M_fault_loop (tx := h 32) htl 10 0 (hset h 31 2 0) FUEL rfl (by unfold FUEL; omega) (Or.inl (by omega)) (hset_off (by omega)) hty1 hpg1 (fun k hk => absurd hk (Nat.not_lt_zero k))
    exact ⟨h2, g1, g2, g3, hp1.tr g4⟩
