/-! PURE: read, dew -/
theorem hset_hset (h : Hp) (a k : Nat) (v w : Int32) : hset (hset h a k v) a k w = hset h a k w := by
  funext b j
  simp only [hset_app]
  split <;> rfl
theorem Same.hset {h g : Hp} (hs : Same h g) (a k : Nat) (v : Int32) : Same (hset h a k v) (hset g a k v) := by
  intro b j hb
  rw [hset_app, hset_app, hs b j hb]
theorem layS_lt {x y : Nat → Nat} {l n hun : Nat} : ∀ (k a : Nat) (fr : Nat → Bool) (left q : Nat), q ∈ layS x y l n hun k a fr left → q < n := by
  intro k
  induction k with
  | zero => intro a fr left q hq; cases hq
  | succ k ih =>
    intro a fr left q hq
    rw [layS] at hq
    split at hq
    · cases hq
    · next t ht =>
      split at hq
      · rcases List.mem_cons.mp hq with e | e
        · rw [e]; exact (sel_in ht).1
        · exact ih _ _ _ _ e
      · cases hq
theorem rowP_lt {x y : Nat → Nat} {n hun thr p l : Nat} {hid : Int32} (hp : p < n) {k : Nat} (hk : k < (rowP x y n hun thr hid p l).length) : (rowP x y n hun thr hid p l).getD k 0 < n := by
  have : (rowP x y n hun thr hid p l).getD k 0 ∈ rowP x y n hun thr hid p l := by
    simp only [List.getD, List.getElem?_eq_getElem hk, Option.getD_some]
    exact List.getElem_mem hk
  rcases List.mem_cons.mp this with e | e
  · rw [e]; exact hp
  · exact layS_lt _ _ _ _ _ e
def rdS (it : Nat → Int32) : Nat → Nat → Int32 → Int32 × Int32
  | 0, k, hid => (nI k, hid)
  | j + 1, k, hid => if it k = 0 ∨ it k = 1 then rdS it j (k + 1) ((hid &&& (((1 : Int32) <<< (nI k &&& 31)) ^^^ (-1))) ||| (it k <<< (nI k &&& 31))) else (nI k, hid)
theorem C_rd {a N : Nat} {it : Nat → Int32} (hN : N ≤ 10) (ha : a ≠ 0) (hb : a + 1 ≠ 0) : ∀ (j k m : Nat) (h : Hp), k + j = N → j < m → (∀ i, i < N → h (a + 1) i = it i) → l_C_read_43 m a (nI N) (nI k) h = some ((rdS it j k (h 0 7)).1, hset h 0 7 (rdS it j k (h 0 7)).2) := by
  intro j
  induction j with
  | zero =>
    intro k m h hk hm hi
    obtain ⟨m, rfl⟩ : ∃ m', m = m' + 1 := ⟨m - 1, by omega⟩
    have : k = N := by omega
    subst this
    rw [l_C_read_43, if_pos (nI_le (Nat.le_refl _) (by omega)), rdS, hset_id]
  | succ j ih =>
    intro k m h hk hm hi
    obtain ⟨m, rfl⟩ : ∃ m', m = m' + 1 := ⟨m - 1, by omega⟩
    rw [l_C_read_43, if_neg (nI_ge (by omega) (by omega)), chk_nI (by omega) (by omega), ix_nI (by omega), hi k (by omega), nI_1]
    unfold f_C_setHidden
    simp only [bnd_some]
    have e := ih (k + 1) m (hset h 0 7 ((h 0 7 &&& (((1 : Int32) <<< (nI k &&& 31)) ^^^ (-1))) ||| (it k <<< (nI k &&& 31)))) (by omega) (by omega) (fun i hi' => by rw [hset_ne (by omega)]; exact hi i hi')
    rw [hset_eq, hset_hset] at e
    rw [rdS]
    by_cases h0 : it k = 0
    · rw [if_pos h0, if_pos (Or.inl h0), e]
    · rw [if_neg h0]
      by_cases h1 : it k = 1
      · rw [if_pos h1, if_pos (Or.inr h1), e]
      · rw [if_neg h1, if_neg (fun z => z.elim h0 h1), hset_id]
theorem in01 (u : Int32) : inN u 2 = true ↔ u = 0 ∨ u = 1 := by
  have e0 : (0 : Int32).toInt = 0 := by decide
  have e1 : (1 : Int32).toInt = 1 := by decide
  simp only [eq_iff, e0, e1, inN, decide_eq_true_eq]; omega
theorem M_rd {s z : Nat} {it : Nat → Int32} (hs : s < 4) (hz : z ≤ 48) : ∀ (j k m : Nat) (h : Hp), k + j = (if z ≤ 10 then z else 10) → j < m → h 43 s = nI z → (∀ i, i < z → h 44 (48 * s + i) = it i) → l_M_read_27 m (nI s) (nI k) h = some ((rdS it j k (h 31 5)).1, hset h 31 5 (rdS it j k (h 31 5)).2) := by
  intro j
  induction j with
  | zero =>
    intro k m h hk hm h43 hi
    obtain ⟨m, rfl⟩ : ∃ m', m = m' + 1 := ⟨m - 1, by omega⟩
    rw [l_M_read_27, chk_nI hs (by omega), ix_nI (by omega), h43, rdS, hset_id]
    by_cases hc : z ≤ k
    · rw [if_pos (nI_le hc (by split at hk <;> omega))]
    · rw [if_neg (nI_ge (by omega) (by omega)), if_pos (show (10 : Int32) ≤ nI k from nI_le (a := 10) (by split at hk <;> omega) (by omega))]
  | succ j ih =>
    intro k m h hk hm h43 hi
    have hk1 : k < z ∧ k < 10 := by split at hk <;> omega
    obtain ⟨m, rfl⟩ : ∃ m', m = m' + 1 := ⟨m - 1, by omega⟩
    rw [l_M_read_27, chk_nI hs (by omega), ix_nI (by omega), h43, if_neg (nI_ge hk1.1 (by omega)), if_neg (nle10 hk1.2), ix48, chk_nI (by omega) (by omega), ix_nI (by omega), hi k hk1.1, show f_M_in (it k) 0 1 h = _ from in_lit (it k) (n := 1) (by omega) h, bnd_some, chk_nI (by omega) (by omega), nI_1, hi k hk1.1]
    have e := ih (k + 1) m (hset h 31 5 ((h 31 5 &&& (((1 : Int32) <<< (nI k &&& 31)) ^^^ (-1))) ||| (it k <<< (nI k &&& 31)))) (by omega) (by omega) (by rw [hset_ne (by omega)]; exact h43) (fun i hi' => by rw [hset_ne (by omega)]; exact hi i hi')
    rw [hset_eq, hset_hset] at e
    rw [rdS]
    by_cases hb : inN (it k) 2 = true
    · rw [if_pos hb, if_neg (by decide), if_pos ((in01 _).mp hb), e]
    · rw [if_neg hb, if_pos rfl, if_neg (fun z => hb ((in01 _).mpr z)), hset_id]
theorem hid_ok {h : Hp} (hr : Rel h) (v : Int32) : Rel (hset (hset h 0 7 v) 31 5 v) := by
  refine two_ok hr (by omega) (by omega) ?_
  obtain ⟨v1, v2, v3, v4, v5⟩ := hr.2.1
  have z0 : ∀ k, k ≠ 7 → hset (hset h 0 7 v) 31 5 v 0 k = h 0 k := fun k hk => by rw [hset_ne (by omega), hset_ne (by omega)]
  have z31 : ∀ k, k ≠ 5 → hset (hset h 0 7 v) 31 5 v 31 k = h 31 k := fun k hk => by rw [hset_ne (by omega), hset_ne (by omega)]
  unfold RV
  rw [z0 8 (by omega), z0 9 (by omega), z0 10 (by omega), z0 11 (by omega), z31 6 (by omega), z31 7 (by omega), z31 8 (by omega), z31 24 (by omega), hset_eq, hset_ne (by omega), hset_eq]
  exact ⟨rfl, v2, v3, v4, v5⟩
theorem jmin_nI {a b : Nat} (ha : a < 2 ^ 31) (hb : b < 2 ^ 31) : jmin (nI a) (nI b) = nI (if a ≤ b then a else b) := by
  unfold jmin
  by_cases hc : a ≤ b
  · rw [if_neg (nI_nlt hc hb), if_pos hc]
  · rw [if_pos (nI_lt (by omega) ha), if_neg hc]
theorem op_read (x1 : Int32) : OpOK Rel (f_C_read x1) (f_M_read x1) := by
  intro h hr
  by_cases h1 : inN x1 4 = true
  · obtain ⟨s, hs, rfl⟩ := inN_ex h1 (by omega)
    obtain ⟨th, f, z, s1, s2, s3, s4, s5, s6, s7, s8, s9⟩ := hr.2.2.2 s hs
    cases th with
    | true =>
      have eN : (if z ≤ 10 then z else 10) ≤ 10 := by split <;> omega
      have eC := C_rd (a := 23 + 2 * s) (N := if z ≤ 10 then z else 10) (it := fun i => h 44 (48 * s + i)) eN (by omega) (by omega) (if z ≤ 10 then z else 10) 0 FUEL h (by omega) (by unfold FUEL; split <;> omega) (fun i hi => by rw [show 23 + 2 * s + 1 = 24 + 2 * s by omega]; exact s9 i (by split at hi <;> omega))
      generalize hR : rdS (fun i => h 44 (48 * s + i)) (if z ≤ 10 then z else 10) 0 (h 0 7) = R at eC
      have eM := M_rd (s := s) (z := z) (it := fun i => h 44 (48 * s + i)) hs s2 (if z ≤ 10 then z else 10) 0 FUEL (hset h 0 7 R.2) (by omega) (by unfold FUEL; split <;> omega) (by rw [hset_ne (by omega)]; exact s8) (fun i hi => by rw [hset_ne (by omega)])
      rw [show (hset h 0 7 R.2) 31 5 = h 0 7 from by rw [hset_ne (by omega), hr.2.1.1], hR] at eM
      refine ⟨R.1, hset h 0 7 R.2, hset (hset h 0 7 R.2) 31 5 R.2, ?_, ?_, hid_ok hr _⟩
      · unfold f_C_read
        rw [C_isSheet, h1, bnd_some, if_neg (by decide), chk_nI hs (by omega), ix_nI (by omega), s4, if_pos (by decide), s7, show jmin (nI z) 10 = _ from jmin_nI (a := z) (b := 10) (by omega) (by omega)]
        exact eC
      · unfold f_M_read
        rw [M_isSheet, h1, bnd_some, if_neg (by decide), chk_nI hs (by omega), ix_nI (by omega), show (hset h 0 7 R.2) 41 s = 1 from by rw [hset_ne (by omega)]; exact s3, if_neg (by decide)]
        exact eM
    | false =>
      refine ⟨(-10) - 1, hset h 0 11 1, hset (hset h 0 11 1) 31 24 1, ?_, ?_, found_ok hr 1⟩
      · unfold f_C_read f_C_found
        rw [C_isSheet, h1, bnd_some, if_neg (by decide), chk_nI hs (by omega), ix_nI (by omega), s4, if_neg (by decide), bnd_some]
      · unfold f_M_read f_M_meets
        rw [M_isSheet, h1, bnd_some, if_neg (by decide), chk_nI hs (by omega), ix_nI (by omega), show (hset h 0 11 1) 41 s = 0 from by rw [hset_ne (by omega)]; exact s3, if_pos rfl, bnd_some]
  · refine ⟨-2, h, h, ?_, ?_, hr⟩
    · unfold f_C_read
      rw [C_isSheet, bnd_some, if_neg h1, if_pos rfl]
    · unfold f_M_read
      rw [M_isSheet, bnd_some, if_neg h1, if_pos rfl]
def dewF (it : Nat → Int32) (x y : Nat → Nat) (R : List Nat) : Nat → Nat → Int32
  | 0, _ => -1
  | j + 1, k => if it k ≤ nI (farN x y (R.getD k 0) (R.getD (k + 1) 0)) then dewF it x y R j (k + 1) else nI k
section DEW
variable {h : Hp} {n : Nat} {x y : Nat → Nat} {thr hun rea : Nat} {hid flt : Int32}
theorem C_dewL (c : Ctx h n x y thr hun rea hid flt) {a z : Nat} {R : List Nat} {it : Nat → Int32} (hR : RowAt (h 16) R) (hl : h 15 1 = nI R.length) (hl10 : R.length ≤ 10) (hlt : ∀ k, k < R.length → R.getD k 0 < n) (hz : z ≤ 48) (h3 : h a 3 = nI z) (hi : ∀ i, i < z → h (a + 1) i = it i) :
    ∀ (j k m : Nat), k + j = (if z ≤ R.length - 1 then z else R.length - 1) → j < m → l_C_dew_77 m a 15 (nI k) h = some (dewF it x y R j k, h) := by
  intro j
  induction j with
  | zero =>
    intro k m hk hm
    obtain ⟨m, rfl⟩ : ∃ m', m = m' + 1 := ⟨m - 1, by omega⟩
    rw [l_C_dew_77, h3, hl, nI_1, dewF]
    by_cases hc : z ≤ k
    · rw [if_pos (nI_le hc (by split at hk <;> omega))]
    · rw [if_neg (nI_ge (by omega) (by omega)), if_pos (nI_le (by split at hk <;> omega) (by omega))]
  | succ j ih =>
    intro k m hk hm
    have hk1 : k < z ∧ k + 1 < R.length := by split at hk <;> omega
    obtain ⟨m, rfl⟩ : ∃ m', m = m' + 1 := ⟨m - 1, by omega⟩
    rw [l_C_dew_77, h3, hl, nI_1, if_neg (nI_ge hk1.1 (by omega)), if_neg (nI_ge hk1.2 (by omega)), chk_nI (by omega) (by omega), chk_nI (by omega) (by omega), chk_nI (by omega) (by omega), ix_nI (by omega), ix_nI (by omega), show h (15 + 1) k = _ from hR.at (by omega), show h (15 + 1) (k + 1) = _ from hR.at (by omega), Fr_apart c.2.1.2.1 c.1.1 (hlt k (by omega)) (hlt (k + 1) (by omega)), bnd_some, hi k hk1.1, dewF, ih (k + 1) m (by omega) (by omega)]
    split <;> rfl
theorem M_dewL (hM : MP h n x y) (hn : n ≤ 10) {s z : Nat} {R : List Nat} {it : Nat → Int32} (hs : s < 4) (hR : RowAt (h 35) R) (hl : h 31 10 = nI R.length) (hl10 : R.length ≤ 10) (hlt : ∀ k, k < R.length → R.getD k 0 < n) (hz : z ≤ 48) (h3 : h 43 s = nI z) (hi : ∀ i, i < z → h 44 (48 * s + i) = it i) :
    ∀ (j k m : Nat), k + j = (if z ≤ R.length - 1 then z else R.length - 1) → j < m → l_M_dewOf_24 m (nI s) (nI k) h = some (dewF it x y R j k, h) := by
  intro j
  induction j with
  | zero =>
    intro k m hk hm
    obtain ⟨m, rfl⟩ : ∃ m', m = m' + 1 := ⟨m - 1, by omega⟩
    rw [l_M_dewOf_24, hl, nI_1, dewF, chk_nI hs (by omega), ix_nI (by omega), h3]
    by_cases hc : R.length ≤ k + 1
    · rw [if_pos (nI_le hc (by split at hk <;> omega))]
    · rw [if_neg (nI_ge (by omega) (by omega)), if_pos (nI_le (by split at hk <;> omega) (by split at hk <;> omega))]
  | succ j ih =>
    intro k m hk hm
    have hk1 : k < z ∧ k + 1 < R.length := by split at hk <;> omega
    obtain ⟨m, rfl⟩ : ∃ m', m = m' + 1 := ⟨m - 1, by omega⟩
    rw [l_M_dewOf_24, hl, nI_1, if_neg (nI_ge hk1.2 (by omega)), chk_nI hs (by omega), ix_nI (by omega), h3, if_neg (nI_ge hk1.1 (by omega)), ix48, chk_nI (by omega) (by omega), chk_nI (by omega) (by omega), chk_nI (by omega) (by omega), ix_nI (by omega), ix_nI (by omega), ix_nI (by omega), hR.at (by omega), hR.at (by omega), M_farOf hM.2 (by omega) (hlt k (by omega)) (hlt (k + 1) (by omega)), bnd_some, hi k hk1.1, dewF, ih (k + 1) m (by omega) (by omega)]
    split <;> rfl
end DEW
