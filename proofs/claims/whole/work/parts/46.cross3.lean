section CRM
variable {h : Hp} {n : Nat} {x y : Nat → Nat} {thr hun rea : Nat} {hid flt : Int32}
theorem M_cr1 (c : Ctx h n x y thr hun rea hid flt) (hM : MP h n x y) {R : List Nat} (hR : RowAt (h 35) R) (hl : h 31 10 = nI R.length) (hl10 : R.length ≤ 10) (hlt : ∀ k, k < R.length → R.getD k 0 < n) (hne : ∀ k, k + 1 < R.length → R.getD k 0 ≠ R.getD (k + 1) 0) {i : Nat} (hi : i + 1 < R.length) (K : Int32 → Int32 → Hp → Option (Int32 × Hp)) : ∀ (j k m : Nat) (s : Int32), R.length - (k + 1) = j → k < 13 → j < m → l_M_crossesOf_43 K m s (nI i) (nI k) h = K (itr (crI x y R i) j k s) (nI (i + 1)) h := by
  have hn := c.1.1
  intro j
  induction j with
  | zero =>
    intro k m s hk hk13 hm
    obtain ⟨m, rfl⟩ : ∃ m', m = m' + 1 := ⟨m - 1, by omega⟩
    rw [l_M_crossesOf_43, hl, nI_1, if_pos (nI_le (by omega) (by omega)), nI_1]; rfl
  | succ j ih =>
    intro k m s hk hk13 hm
    obtain ⟨m, rfl⟩ : ∃ m', m = m' + 1 := ⟨m - 1, by omega⟩
    rw [l_M_crossesOf_43, hl, nI_1, if_neg (nI_ge (by omega) (by omega)), nI_1, chk_nI (by omega) (by omega), chk_nI (by omega) (by omega), chk_nI (by omega) (by omega), chk_nI (by omega) (by omega), ix_nI (by omega), ix_nI (by omega), ix_nI (by omega), ix_nI (by omega), hR.at (k := i) (by omega), hR.at (k := i + 1) (by omega), hR.at (k := k) (by omega), hR.at (k := k + 1) (by omega), M_doMeet hM.2 (by omega) (hlt _ (by omega)) (hlt _ (by omega)) (hlt _ (by omega)) (hlt _ (by omega)), doB_eq c.1.2.1 (hlt _ (by omega)) (hlt _ (by omega)) (hlt _ (by omega)) (hlt _ (by omega)) (hne i hi) (hne k (by omega)), bnd_some, itr]
    have e := fun s => ih (k + 1) m s (by omega) (by omega) (by omega)
    cases hb : meetB x y (R.getD i 0) (R.getD (i + 1) 0) (R.getD k 0) (R.getD (k + 1) 0) with
    | true => rw [if_neg (show ¬ (if true = true then (1 : Int32) else 0) = 0 by decide), e, show crI x y R i k s = s + 1 by unfold crI; rw [hb]; rfl]
    | false => rw [if_pos (show (if false = true then (1 : Int32) else 0) = 0 by decide), show s + 0 = s by simp, e, show crI x y R i k s = s by unfold crI; rw [hb]; rfl]
theorem M_cr2 (c : Ctx h n x y thr hun rea hid flt) (hM : MP h n x y) {R : List Nat} (hR : RowAt (h 35) R) (hl : h 31 10 = nI R.length) (hl10 : R.length ≤ 10) (hlt : ∀ k, k < R.length → R.getD k 0 < n) (hne : ∀ k, k + 1 < R.length → R.getD k 0 ≠ R.getD (k + 1) 0) : ∀ (j i m : Nat) (s : Int32), R.length - (i + 1) = j → i < 12 → j < m → l_M_crossesOf_26 m s (nI i) h = some (itr (crO x y R) j i s, h) := by
  intro j
  induction j with
  | zero =>
    intro i m s hk hk13 hm
    obtain ⟨m, rfl⟩ : ∃ m', m = m' + 1 := ⟨m - 1, by omega⟩
    rw [l_M_crossesOf_26, hl, nI_1, if_pos (nI_le (by omega) (by omega))]; rfl
  | succ j ih =>
    intro i m s hk hk13 hm
    obtain ⟨m, rfl⟩ : ∃ m', m = m' + 1 := ⟨m - 1, by omega⟩
    have u := M_cr1 c hM hR hl hl10 hlt hne (i := i) (by omega) (l_M_crossesOf_26 m) (R.length - (i + 3)) (i + 2) FUEL s (by omega) (by omega) (show R.length - (i + 3) < 5000 by omega)
    rw [l_M_crossesOf_26, hl, nI_1, if_neg (nI_ge (by omega) (by omega)), show nI i + 2 = nI (i + 2) from nI_add (a := i) (b := 2), u, itr]
    exact ih (i + 1) m _ (by omega) (by omega) (by omega)
end CRM
