/-! PURE: the text of pegs -/
def tak (X Y : Nat → Int32) (u v : Int32) : Nat → Bool
  | 0 => false
  | k + 1 => tak X Y u v k || (decide (X k = u) && decide (Y k = v))
theorem tak_congr {X Y X' Y' : Nat → Int32} {u v : Int32} : ∀ {n : Nat}, (∀ k, k < n → X k = X' k ∧ Y k = Y' k) → tak X Y u v n = tak X' Y' u v n
  | 0, _ => rfl
  | n + 1, h => by rw [tak, tak, tak_congr (n := n) (fun k hk => h k (by omega)), (h n (by omega)).1, (h n (by omega)).2]
theorem tak_mono {X Y : Nat → Int32} {u v : Int32} {k : Nat} (hk : tak X Y u v k = true) : ∀ {n : Nat}, k ≤ n → tak X Y u v n = true
  | 0, h => by have : k = 0 := by omega
               subst this; exact hk
  | n + 1, h => by
    by_cases e : k = n + 1
    · subst e; exact hk
    · rw [tak, tak_mono hk (n := n) (by omega), Bool.true_or]
theorem b01 (b : Bool) (h : Hp) : zret (if b = true then 1 else 0) h = some (if b = true then 1 else 0, h) := by cases b <;> rfl
theorem M_isTaken {n : Nat} {u v : Int32} {h : Hp} (hn : n ≤ 11) : f_M_isTaken u v (nI n) h = some (if tak (h 33) (h 34) u v n = true then 1 else 0, h) := by
  have key : ∀ (j k m : Nat), k + j = n → j < m → l_M_isTaken_6 m u v (nI n) (if tak (h 33) (h 34) u v k = true then 1 else 0) (nI k) h = some (if tak (h 33) (h 34) u v n = true then 1 else 0, h) := by
    intro j
    induction j with
    | zero =>
      intro k m hk hm
      obtain ⟨m, rfl⟩ : ∃ m', m = m' + 1 := ⟨m - 1, by omega⟩
      have : k = n := by omega
      subst this
      rw [l_M_isTaken_6, if_pos (nI_le (Nat.le_refl _) (by omega)), b01]
    | succ j ih =>
      intro k m hk hm
      obtain ⟨m, rfl⟩ : ∃ m', m = m' + 1 := ⟨m - 1, by omega⟩
      have hi := ih (k + 1) m (by omega) (by omega)
      rw [tak] at hi
      rw [l_M_isTaken_6, if_neg (nI_ge (by omega) (by omega)), nI_1]
      cases ht : tak (h 33) (h 34) u v k with
      | true => rw [ht] at hi; exact hi
      | false =>
        rw [ht] at hi
        rw [if_pos (show (if false = true then (1 : Int32) else 0) = 0 from rfl), chk_nI (by omega) (by omega), ix_nI (by omega), chk_nI (by omega) (by omega)]
        by_cases h1 : h 33 k = u
        · rw [if_pos h1]
          by_cases h2 : h 34 k = v
          · rw [if_pos h2]; simpa [h1, h2] using hi
          · rw [if_neg h2]; simpa [h1, h2] using hi
        · rw [if_neg h1]; simpa [h1] using hi
  exact key n 0 FUEL (by omega) (by unfold FUEL; omega)
theorem Fr_isTaken {a n : Nat} {u v : Int32} {h : Hp} (hn : n ≤ 10) (hs : h a 2 = nI n) : f_Fr_isTaken a u v h = some (if tak (h (a + 1)) (h (a + 2)) u v n = true then 1 else 0, h) := by
  have key : ∀ (j k m : Nat), k + j = n → j < m → tak (h (a + 1)) (h (a + 2)) u v k = false → l_Fr_isTaken_2 m a u v (nI k) h = some (if tak (h (a + 1)) (h (a + 2)) u v n = true then 1 else 0, h) := by
    intro j
    induction j with
    | zero =>
      intro k m hk hm ht
      obtain ⟨m, rfl⟩ : ∃ m', m = m' + 1 := ⟨m - 1, by omega⟩
      have : k = n := by omega
      subst this
      rw [l_Fr_isTaken_2, hs, if_pos (nI_le (Nat.le_refl _) (by omega)), ht]; rfl
    | succ j ih =>
      intro k m hk hm ht
      obtain ⟨m, rfl⟩ : ∃ m', m = m' + 1 := ⟨m - 1, by omega⟩
      have hi := ih (k + 1) m (by omega) (by omega)
      rw [l_Fr_isTaken_2, hs, if_neg (nI_ge (by omega) (by omega)), nI_1, chk_nI (by omega) (by omega), ix_nI (by omega), chk_nI (by omega) (by omega)]
      by_cases h1 : h (a + 1) k = u
      · rw [if_pos h1]
        by_cases h2 : h (a + 2) k = v
        · have : tak (h (a + 1)) (h (a + 2)) u v (k + 1) = true := by rw [tak]; simp [h1, h2]
          rw [if_pos h2, tak_mono this (by omega)]; rfl
        · rw [if_neg h2]; exact hi (by rw [tak, ht]; simp [h2])
      · rw [if_neg h1]; exact hi (by rw [tak, ht]; simp [h1])
  exact key n 0 FUEL (by omega) (by unfold FUEL; omega) rfl
def dg (v : Int32) : Bool := decide (¬ v < 48 ∧ ¬ 57 < v)
theorem dg_ex {v : Int32} (h : dg v = true) : ∃ k, k < 10 ∧ v = nI (48 + k) ∧ v - 48 = nI k := by
  simp only [dg, decide_eq_true_eq] at h
  obtain ⟨h1, h2⟩ := h
  rw [lt_iff] at h1 h2
  have e1 : (48 : Int32).toInt = 48 := by decide
  have e2 : (57 : Int32).toInt = 57 := by decide
  rw [e1] at h1; rw [e2] at h2
  have e3 : v = nI (48 + (v.toInt.toNat - 48)) := by
    rw [eq_iff, nI_toInt (by omega)]; omega
  refine ⟨v.toInt.toNat - 48, by omega, e3, ?_⟩
  rw [show v - 48 = nI (48 + (v.toInt.toNat - 48)) - nI 48 from by rw [← e3]; rfl, pk_sub (by omega)]
  congr 1; omega
theorem M_in (u : Int32) {a b : Nat} (ha : a < 2 ^ 30) (hb : b < 2 ^ 30) (h : Hp) : f_M_in u (nI a) (nI b) h = some (if (a : Int) ≤ u.toInt ∧ u.toInt ≤ b then 1 else 0, h) := by
  unfold f_M_in
  simp only [lt_iff]
  rw [nI_toInt (by omega), nI_toInt (by omega)]
  by_cases h1 : u.toInt < (a : Int)
  · rw [if_pos h1, if_neg (by omega)]
  · rw [if_neg h1]
    by_cases h2 : (b : Int) < u.toInt
    · rw [if_pos h2, if_neg (by omega)]
    · rw [if_neg h2, if_pos (by omega)]
theorem dg_in (v : Int32) : (0 ≤ (v - 48).toInt ∧ (v - 48).toInt ≤ 9) ↔ dg v = true := by
  constructor
  · rintro ⟨h1, h2⟩
    have e : v - 48 = nI (v - 48).toInt.toNat := by rw [eq_iff, nI_toInt (by omega)]; omega
    have e2 : v = nI ((v - 48).toInt.toNat + 48) := by
      rw [← nI_add, ← e, show nI 48 = (48 : Int32) from rfl, Int32.sub_add_cancel]
    have e3 := congrArg Int32.toInt e2
    rw [nI_toInt (by omega)] at e3
    simp only [dg, decide_eq_true_eq, lt_iff]
    have g1 : (48 : Int32).toInt = 48 := by decide
    have g2 : (57 : Int32).toInt = 57 := by decide
    rw [g1, g2]; omega
  · intro h
    obtain ⟨k, hk, -, e⟩ := dg_ex h
    rw [e, nI_toInt (by omega)]; omega
theorem M_figureAt {k tl : Nat} {h : Hp} (ht : h 31 1 = nI tl) (hl : tl ≤ 40) (hk : k < 60) : f_M_figureAt (nI k) h = some (if k < tl ∧ dg (h 32 k) = true then h 32 k - 48 else -1, h) := by
  unfold f_M_figureAt
  rw [ht]
  by_cases hc : k < tl
  · rw [if_neg (nI_ge hc (by omega)), chk_nI (by omega) (by omega), ix_nI (by omega), show f_M_in (h 32 k - 48) 0 9 h = _ from M_in (h 32 k - 48) (a := 0) (b := 9) (by decide) (by decide) h, bnd_some]
    have e : (((0 : Nat) : Int) ≤ (h 32 k - 48).toInt ∧ (h 32 k - 48).toInt ≤ ((9 : Nat) : Int)) ↔ dg (h 32 k) = true := dg_in (h 32 k)
    by_cases hd : dg (h 32 k) = true
    · rw [if_pos (e.mpr hd), if_neg (by decide), if_pos ⟨hc, hd⟩]
    · rw [if_neg (fun z => hd (e.mp z)), if_pos rfl, if_neg (fun z => hd z.2)]
  · rw [if_pos (nI_le (by omega) (by omega)), if_neg (fun z => hc z.1), show f_M_in (-1) 0 9 h = some (0, h) from rfl, bnd_some, if_pos rfl]
theorem figm1 {v : Int32} (h : dg v = true) : ¬ v - 48 = -1 := by
  obtain ⟨k, hk, -, e⟩ := dg_ex h
  rw [e]; exact m1_ne (by omega)
def pxX (tx : Nat → Int32) : Nat → Int32 := fun k => tx (3 * k) - 48
def pxY (tx : Nat → Int32) : Nat → Int32 := fun k => tx (3 * k + 1) - 48
def pz (tx : Nat → Int32) (tl : Nat) : Nat → Nat → Int32 × Nat
  | 0, i => (nI (3 * i), 0)
  | f + 1, i => if 3 * i < tl ∧ dg (tx (3 * i)) = true then
      (if 3 * i + 1 < tl ∧ dg (tx (3 * i + 1)) = true ∧ tak (pxX tx) (pxY tx) (pxX tx i) (pxY tx i) i = false then
        (if 3 * i + 2 = tl then (-1, i + 1) else if tx (3 * i + 2) = 59 then pz tx tl f (i + 1) else (nI (3 * i + 2), 0))
      else (nI (3 * i + 1), 0)) else (nI (3 * i), 0)
def parse (tx : Nat → Int32) (tl : Nat) : Int32 × Nat := if tl = 0 then (-1, 0) else pz tx tl 10 0
