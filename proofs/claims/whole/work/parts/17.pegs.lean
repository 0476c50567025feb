/-! PURE: the class's reading of the text -/
theorem lt10 {i : Nat} (h : i < 10) : nI i < 10 := nI_lt (b := 10) h (by omega)
theorem nlt10 {i : Nat} (h : 10 ≤ i) (hi : i < 2 ^ 31) : ¬ nI i < 10 := nI_nlt (b := 10) h hi
theorem nle10 {i : Nat} (h : i < 10) : ¬ (10 : Int32) ≤ nI i := nI_ge (b := 10) h (by omega)
theorem nz {i : Nat} (h : 0 < i) (hi : i < 2 ^ 31) : ¬ nI i = 0 := nI_ne0 h hi
theorem rem3 {p : Nat} (hp : p < 2 ^ 31) : nI p - nI p / 3 * 3 = nI (p % 3) := pk_rem (d := 3) hp (by omega) (by omega)
theorem dg_f {v : Int32} (h : ¬ dg v = true) : v < 48 ∨ 57 < v := by
  by_cases h1 : v < 48
  · exact Or.inl h1
  · by_cases h2 : 57 < v
    · exact Or.inr h2
    · exact absurd (by simp only [dg, decide_eq_true_eq]; exact ⟨h1, h2⟩) h
theorem dg_t {v : Int32} (h : dg v = true) : ¬ v < 48 ∧ ¬ 57 < v := by simpa only [dg, decide_eq_true_eq] using h
theorem Tx_goes0 {i : Nat} {h : Hp} (hi : i ≤ 10) (h3 : 3 * i < 40) (hs : h 3 2 = nI i) : f_Tx_goesOn 1 3 (nI (3 * i)) h = some (if dg (h 2 (3 * i)) = true ∧ i < 10 then 1 else 0, h) := by
  unfold f_Tx_goesOn
  rw [chk_nI (by omega) (by omega), rem3 (by omega), show 3 * i % 3 = 0 by omega, if_neg (show ¬ nI 0 = 2 by decide), ix_nI (by omega), if_pos (show nI 0 = 0 from rfl), hs]
  show (if h 2 (3 * i) < 48 then _ else _) = _
  by_cases hd : dg (h 2 (3 * i)) = true
  · obtain ⟨d1, d2⟩ := dg_t hd
    rw [if_neg d1, if_neg d2]
    by_cases h10 : i < 10
    · rw [if_pos (lt10 h10), if_pos ⟨hd, h10⟩]
    · rw [if_neg (nlt10 (i := i) (by omega) (by omega)), if_neg (fun z => h10 z.2)]
  · rw [if_neg (show ¬ (dg (h 2 (3 * i)) = true ∧ i < 10) from fun z => hd z.1)]
    rcases dg_f hd with q | q
    · rw [if_pos q]
    · by_cases q1 : h 2 (3 * i) < 48
      · rw [if_pos q1]
      · rw [if_neg q1, if_pos q]
theorem Tx_goes1 {i : Nat} {h : Hp} (hi : i ≤ 10) (h3 : 3 * i + 1 < 40) (hs : h 3 2 = nI i) : f_Tx_goesOn 1 3 (nI (3 * i + 1)) h = some (if dg (h 2 (3 * i + 1)) = true ∧ i < 10 ∧ tak (h 4) (h 5) (h 2 (3 * i) - 48) (h 2 (3 * i + 1) - 48) i = false then 1 else 0, h) := by
  unfold f_Tx_goesOn
  rw [chk_nI (by omega) (by omega), rem3 (by omega), show (3 * i + 1) % 3 = 1 by omega, if_neg (show ¬ nI 1 = 2 by decide), if_neg (show ¬ nI 1 = 0 by decide), nI_pred, chk_nI (by omega) (by omega), ix_nI (by omega), ix_nI (by omega), Fr_isTaken hi hs, bnd_some, hs]
  show (if h 2 (3 * i + 1) < 48 then _ else if 57 < h 2 (3 * i + 1) then _ else if nI i < 10 then (if (if tak (h 4) (h 5) (h 2 (3 * i) - 48) (h 2 (3 * i + 1) - 48) i = true then (1 : Int32) else 0) = 0 then _ else _) else _) = _
  by_cases hd : dg (h 2 (3 * i + 1)) = true
  · obtain ⟨d1, d2⟩ := dg_t hd
    rw [if_neg d1, if_neg d2]
    by_cases h10 : i < 10
    · rw [if_pos (lt10 h10)]
      cases tak (h 4) (h 5) (h 2 (3 * i) - 48) (h 2 (3 * i + 1) - 48) i with
      | true => rw [if_neg (show ¬ (if true = true then (1 : Int32) else 0) = 0 by decide), if_neg (show ¬ (dg (h 2 (3 * i + 1)) = true ∧ i < 10 ∧ true = false) from fun z => by have := z.2.2; cases this)]
      | false => rw [if_pos (show (if false = true then (1 : Int32) else 0) = 0 from rfl), if_pos (show (dg (h 2 (3 * i + 1)) = true ∧ i < 10 ∧ false = false) from ⟨hd, h10, rfl⟩)]
    · rw [if_neg (nlt10 (i := i) (by omega) (by omega)), if_neg (show ¬ (dg (h 2 (3 * i + 1)) = true ∧ i < 10 ∧ tak (h 4) (h 5) (h 2 (3 * i) - 48) (h 2 (3 * i + 1) - 48) i = false) from fun z => h10 z.2.1)]
  · rw [if_neg (show ¬ (dg (h 2 (3 * i + 1)) = true ∧ i < 10 ∧ tak (h 4) (h 5) (h 2 (3 * i) - 48) (h 2 (3 * i + 1) - 48) i = false) from fun z => hd z.1)]
    rcases dg_f hd with q | q
    · rw [if_pos q]
    · by_cases q1 : h 2 (3 * i + 1) < 48
      · rw [if_pos q1]
      · rw [if_neg q1, if_pos q]
theorem Tx_goes2 {i : Nat} {h : Hp} (h3 : 3 * i + 2 < 40) : f_Tx_goesOn 1 3 (nI (3 * i + 2)) h = some (if h 2 (3 * i + 2) = 59 then 1 else 0, h) := by
  unfold f_Tx_goesOn
  rw [chk_nI (by omega) (by omega), rem3 (by omega), show (3 * i + 2) % 3 = 2 by omega, if_pos (show nI 2 = 2 from rfl), ix_nI (by omega)]
  show (if h 2 (3 * i + 2) = 59 then _ else _) = _
  split <;> rfl
theorem Fr_add {a i : Nat} {u v : Int32} {h : Hp} (hi : i < 10) (hs : h a 2 = nI i) : f_Fr_add a u v h = some ((), hset (hset (hset h (a + 1) i u) (a + 2) i v) a 2 (nI (i + 1))) := by
  unfold f_Fr_add
  have e1 : (hset h (a + 1) i u) a 2 = nI i := by rw [hset_ne (by omega)]; exact hs
  have e2 : (hset (hset h (a + 1) i u) (a + 2) i v) a 2 = nI i := by rw [hset_ne (by omega)]; exact e1
  rw [hs, if_neg (nle10 hi), chk_nI hi (by omega), ix_nI (by omega), e1, chk_nI hi (by omega), ix_nI (by omega), e2, nI_1]
def cfr (a : Nat) (h h' : Hp) : Prop := ∀ b, b ≠ a → b ≠ a + 1 → b ≠ a + 2 → h' b = h b
/-- how the loop ends at a place -/
theorem pegs_end {p tl : Nat} {h : Hp} (m : Nat) (hp : p = tl) (h0 : 0 < tl) (htl : tl ≤ 40) (hz : h 1 1 = nI tl) : l_Tx_pegsTo_7 (m + 1) 1 3 (nI p) h = if tl % 3 = 2 then some (-1, h) else some (nI p, hset h 3 2 0) := by
  subst hp
  rw [l_Tx_pegsTo_7, hz, if_pos (nI_le (Nat.le_refl _) (by omega)), if_pos rfl, if_neg (nz (i := p) (by omega) (by omega)), rem3 (by omega)]
  by_cases h2 : p % 3 = 2
  · rw [if_pos (show nI (p % 3) = 2 by rw [h2]; rfl), if_pos h2]
  · rw [if_neg (show ¬ nI (p % 3) = 2 from fun z => h2 (nI_inj (a := p % 3) (b := 2) (by omega) (by omega) z)), if_neg h2]
theorem pegs_no {p tl : Nat} {h : Hp} (m : Nat) (hp : p < tl) (htl : tl ≤ 40) (hz : h 1 1 = nI tl) (hg : f_Tx_goesOn 1 3 (nI p) h = some (0, h)) : l_Tx_pegsTo_7 (m + 1) 1 3 (nI p) h = some (nI p, hset h 3 2 0) := by
  rw [l_Tx_pegsTo_7, hz, if_neg (nI_ge hp (by omega)), hg, bnd_some, if_pos (show (0 : Int32) = 0 from rfl), hz, if_neg (show ¬ nI p = nI tl from fun z => by have := nI_inj (a := p) (b := tl) (by omega) (by omega) z; omega)]
theorem pegs_go {p tl : Nat} {h : Hp} (m : Nat) (hp : p < tl) (htl : tl ≤ 40) (hz : h 1 1 = nI tl) (hg : f_Tx_goesOn 1 3 (nI p) h = some (1, h)) (h3 : ¬ p % 3 = 1) : l_Tx_pegsTo_7 (m + 1) 1 3 (nI p) h = l_Tx_pegsTo_7 m 1 3 (nI (p + 1)) h := by
  rw [l_Tx_pegsTo_7, hz, if_neg (nI_ge hp (by omega)), hg, bnd_some, if_neg (show ¬ (1 : Int32) = 0 by decide), rem3 (by omega), if_neg (show ¬ nI (p % 3) = 1 from fun z => h3 (nI_inj (a := p % 3) (b := 1) (by omega) (by omega) z)), nI_1]
theorem pegs_loop {tx : Nat → Int32} {tl : Nat} (htl : tl ≤ 40) (h0 : 0 < tl) : ∀ (f i : Nat) (h : Hp) (m : Nat), i + f = 10 → 3 * f + 3 < m → 3 * i ≤ tl → h 2 = tx → h 1 1 = nI tl → h 3 2 = nI i → (∀ k, k < i → h 4 k = pxX tx k ∧ h 5 k = pxY tx k) →
    ∃ h', l_Tx_pegsTo_7 m 1 3 (nI (3 * i)) h = some ((pz tx tl f i).1, h') ∧ h' 3 2 = nI (pz tx tl f i).2 ∧ (∀ k, k < (pz tx tl f i).2 → h' 4 k = pxX tx k ∧ h' 5 k = pxY tx k) ∧ cfr 3 h h' := by
  intro f
  induction f with
  | zero =>
    intro i h m hi hm hit ht hty hpg hx
    obtain ⟨m, rfl⟩ : ∃ m', m = m' + 1 := ⟨m - 1, by omega⟩
    have fin : ∃ h', some (nI (3 * i), hset h 3 2 0) = some ((pz tx tl 0 i).1, h') ∧ h' 3 2 = nI (pz tx tl 0 i).2 ∧ (∀ k, k < (pz tx tl 0 i).2 → h' 4 k = pxX tx k ∧ h' 5 k = pxY tx k) ∧ cfr 3 h h' := ⟨_, rfl, hset_eq _ _ _ _, fun k hk => absurd hk (Nat.not_lt_zero k), fun b b1 _ _ => hset_off b1⟩
    by_cases h3 : 3 * i = tl
    · rw [pegs_end m h3 h0 htl hty, if_neg (by omega)]; exact fin
    · rw [pegs_no m (by omega) htl hty (by rw [Tx_goes0 (by omega) (by omega) hpg, if_neg (fun z => by omega)])]; exact fin
  | succ f ih =>
    intro i h m hi hm hit ht hty hpg hx
    obtain ⟨m, rfl⟩ : ∃ m', m = m' + 1 + 1 + 1 := ⟨m - 3, by omega⟩
    have fin : ∀ (g : Hp) (p : Nat) (q : Int32 × Nat), cfr 3 h g → q = (nI p, 0) → ∃ h', some (nI p, hset g 3 2 0) = some (q.1, h') ∧ h' 3 2 = nI q.2 ∧ (∀ k, k < q.2 → h' 4 k = pxX tx k ∧ h' 5 k = pxY tx k) ∧ cfr 3 h h' := by
      intro g p q hg hq
      subst hq
      exact ⟨_, rfl, hset_eq _ _ _ _, fun k hk => absurd hk (Nat.not_lt_zero k), fun b b1 b2 b3 => by rw [hset_off b1]; exact hg b b1 b2 b3⟩
    have rf : cfr 3 h h := fun _ _ _ _ => rfl
    by_cases h3 : 3 * i = tl
    · rw [pegs_end _ h3 h0 htl hty, if_neg (by omega)]
      exact fin h _ _ rf (by rw [pz, if_neg (fun z => by omega)])
    · by_cases d1 : dg (tx (3 * i)) = true
      · rw [pegs_go _ (by omega) htl hty (by rw [Tx_goes0 (by omega) (by omega) hpg, ht, if_pos ⟨d1, by omega⟩]) (by omega)]
        have q1 : 3 * i < tl ∧ dg (tx (3 * i)) = true := ⟨by omega, d1⟩
        rw [pz, if_pos q1]
        by_cases h4 : 3 * i + 1 = tl
        · rw [pegs_end _ h4 h0 htl hty, if_neg (by omega)]
          exact fin h _ _ rf (by rw [if_neg (fun z => by omega)])
        · have hg := Tx_goes1 (h := h) (i := i) (by omega) (by omega) hpg
          rw [ht, show tx (3 * i) - 48 = pxX tx i from rfl, show tx (3 * i + 1) - 48 = pxY tx i from rfl, tak_congr (X' := pxX tx) (Y' := pxY tx) hx] at hg
          by_cases d2 : dg (tx (3 * i + 1)) = true ∧ tak (pxX tx) (pxY tx) (pxX tx i) (pxY tx i) i = false
          · rw [if_pos ⟨d2.1, by omega, d2.2⟩] at hg
            rw [if_pos ⟨by omega, d2.1, d2.2⟩]
            rw [l_Tx_pegsTo_7, hty, if_neg (nI_ge (by omega) (by omega)), hg, bnd_some, if_neg (show ¬ (1 : Int32) = 0 by decide), rem3 (by omega), show (3 * i + 1) % 3 = 1 by omega, if_pos (show nI 1 = 1 from rfl), nI_pred, chk_nI (by omega) (by omega), chk_nI (by omega) (by omega), ix_nI (by omega), ix_nI (by omega), Fr_add (by omega) hpg, bnd_some, nI_1]
            show ∃ h', l_Tx_pegsTo_7 (m + 1) 1 3 (nI (3 * i + 1 + 1)) (hset (hset (hset h 4 i (h 2 (3 * i) - 48)) 5 i (h 2 (3 * i + 1) - 48)) 3 2 (nI (i + 1))) = _ ∧ _
            rw [ht, show tx (3 * i) - 48 = pxX tx i from rfl, show tx (3 * i + 1) - 48 = pxY tx i from rfl]
            generalize hh1 : hset (hset (hset h 4 i (pxX tx i)) 5 i (pxY tx i)) 3 2 (nI (i + 1)) = h1
            have hp1 : cfr 3 h h1 := fun b b1 b2 b3 => by rw [← hh1, hset_off b1, hset_off b3, hset_off b2]
            have hx1 : ∀ k, k < i + 1 → h1 4 k = pxX tx k ∧ h1 5 k = pxY tx k := by
              intro k hk
              rw [← hh1]
              by_cases e : k = i
              · subst e; exact ⟨by rw [hset_ne (by omega), hset_ne (by omega), hset_eq], by rw [hset_ne (by omega), hset_eq]⟩
              · exact ⟨by rw [hset_ne (by omega), hset_ne (by omega), hset_ne (by omega)]; exact (hx k (by omega)).1, by rw [hset_ne (by omega), hset_ne (by omega), hset_ne (by omega)]; exact (hx k (by omega)).2⟩
            have hty1 : h1 1 1 = nI tl := by rw [hp1 1 (by omega) (by omega) (by omega)]; exact hty
            have ht1 : h1 2 = tx := by rw [hp1 2 (by omega) (by omega) (by omega)]; exact ht
            have hs1 : h1 3 2 = nI (i + 1) := by rw [← hh1, hset_eq]
            rw [show 3 * i + 1 + 1 = 3 * i + 2 by omega]
            by_cases h5 : 3 * i + 2 = tl
            · rw [pegs_end _ h5 h0 htl hty1, if_pos (by omega), if_pos h5]
              exact ⟨h1, rfl, hs1, hx1, hp1⟩
            · rw [if_neg h5]
              have hg2 := Tx_goes2 (h := h1) (i := i) (by omega)
              rw [ht1] at hg2
              by_cases d3 : tx (3 * i + 2) = 59
              · rw [if_pos d3] at hg2
                rw [pegs_go _ (by omega) htl hty1 hg2 (by omega), if_pos d3, show 3 * i + 2 + 1 = 3 * (i + 1) by omega]
                obtain ⟨h2, g1, g2, g3, g4⟩ := ih (i + 1) h1 m (by omega) (by omega) (by omega) ht1 hty1 hs1 hx1
                exact ⟨h2, g1, g2, g3, fun b b1 b2 b3 => by rw [g4 b b1 b2 b3, hp1 b b1 b2 b3]⟩
              · rw [if_neg d3] at hg2
                rw [pegs_no _ (by omega) htl hty1 hg2, if_neg d3]
                exact fin h1 _ _ hp1 rfl
          · rw [if_neg (show ¬ (dg (tx (3 * i + 1)) = true ∧ i < 10 ∧ tak (pxX tx) (pxY tx) (pxX tx i) (pxY tx i) i = false) from fun z => d2 ⟨z.1, z.2.2⟩)] at hg
            rw [pegs_no _ (by omega) htl hty hg]
            exact fin h _ _ rf (by rw [if_neg (show ¬ (3 * i + 1 < tl ∧ dg (tx (3 * i + 1)) = true ∧ tak (pxX tx) (pxY tx) (pxX tx i) (pxY tx i) i = false) from fun z => d2 z.2)])
      · rw [pegs_no _ (by omega) htl hty (by rw [Tx_goes0 (by omega) (by omega) hpg, ht, if_neg (show ¬ (dg (tx (3 * i)) = true ∧ i < 10) from fun z => d1 z.1)])]
        exact fin h _ _ rf (by rw [pz, if_neg (show ¬ (3 * i < tl ∧ dg (tx (3 * i)) = true) from fun z => d1 z.2)])
theorem Tx_pegsTo {tl : Nat} {h : Hp} (htl : tl ≤ 40) (hty : h 1 1 = nI tl) :
    ∃ h', f_Tx_pegsTo 1 3 h = some ((parse (h 2) tl).1, h') ∧ h' 3 2 = nI (parse (h 2) tl).2 ∧ (∀ k, k < (parse (h 2) tl).2 → h' 4 k = pxX (h 2) k ∧ h' 5 k = pxY (h 2) k) ∧ cfr 3 h h' := by
  unfold f_Tx_pegsTo
  have hp1 : cfr 3 h (hset h 3 2 0) := fun b b1 _ _ => hset_off b1
  have hty1 : (hset h 3 2 0) 1 1 = nI tl := by rw [hset_ne (by omega)]; exact hty
  have hs1 : (hset h 3 2 0) 3 2 = nI 0 := by rw [hset_eq]; rfl
  by_cases h0 : tl = 0
  · subst h0
    refine ⟨hset h 3 2 0, ?_, ?_, fun k hk => absurd hk (Nat.not_lt_zero k), hp1⟩
    · show l_Tx_pegsTo_7 (4999 + 1) 1 3 0 (hset h 3 2 0) = _
      rw [l_Tx_pegsTo_7, hty1, if_pos (show nI 0 ≤ 0 by decide), if_pos (show (0 : Int32) = nI 0 from rfl), if_pos (show nI 0 = 0 from rfl)]
      rfl
    · rw [hs1]; rfl
  · have ep : parse (h 2) tl = pz (h 2) tl 10 0 := by rw [parse, if_neg h0]
    rw [ep]
    obtain ⟨h2, g1, g2, g3, g4⟩ := pegs_loop (tx := h 2) htl (by omega) 10 0 (hset h 3 2 0) FUEL rfl (by unfold FUEL; omega) (by omega) (hset_off (by omega)) hty1 hs1 (fun k hk => absurd hk (Nat.not_lt_zero k))
    exact ⟨h2, g1, g2, g3, fun b b1 b2 b3 => by rw [g4 b b1 b2 b3, hp1 b b1 b2 b3]⟩
