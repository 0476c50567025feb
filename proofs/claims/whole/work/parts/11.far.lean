/-! PURE: how far, ranks, the next peg -/
def farN (x y : Nat → Nat) (p q : Nat) : Nat := ((x p - x q) + (x q - x p)) + ((y p - y q) + (y q - y p))
theorem farN_lt {x y : Nat → Nat} {p q : Nat} (h1 : x p < 10) (h2 : x q < 10) (h3 : y p < 10) (h4 : y q < 10) : farN x y p q ≤ 18 := by unfold farN; omega
def PtR (X Y : Nat → Int32) (n : Nat) (x y : Nat → Nat) : Prop := ∀ i, i < n → X i = nI (x i) ∧ Y i = nI (y i) ∧ x i < 10 ∧ y i < 10
theorem jabs_nI : ∀ a, a < 10 → ∀ b, b < 10 → jabs (nI a - nI b) = nI ((a - b) + (b - a)) := by decide
theorem Fr_apart {a n p q : Nat} {x y : Nat → Nat} {h : Hp} (hP : PtR (h (a + 1)) (h (a + 2)) n x y) (hn : n ≤ 10) (hp : p < n) (hq : q < n) : f_Fr_apart a (nI p) (nI q) h = some (nI (farN x y p q), h) := by
  obtain ⟨p1, p2, p3, p4⟩ := hP p hp
  obtain ⟨q1, q2, q3, q4⟩ := hP q hq
  unfold f_Fr_apart
  rw [chk_nI (by omega) (by omega), chk_nI (by omega) (by omega), chk_nI (by omega) (by omega), chk_nI (by omega) (by omega), ix_nI (by omega), ix_nI (by omega), p1, p2, q1, q2, jabs_nI _ p3 _ q3, jabs_nI _ p4 _ q4, nI_add]
  rfl
theorem M_apart {a b : Nat} (ha : a < 10) (hb : b < 10) (h : Hp) : f_M_apart (nI a) (nI b) h = some (nI ((a - b) + (b - a)), h) := by
  unfold f_M_apart
  by_cases hc : b ≤ a
  · rw [if_pos ((nI_leI (by omega) (by omega)).mpr hc), pk_sub hc]
    congr 3; omega
  · rw [if_neg (fun z => hc ((nI_leI (by omega) (by omega)).mp z)), pk_sub (by omega)]
    congr 3; omega
theorem M_farOf {n p q : Nat} {x y : Nat → Nat} {h : Hp} (hP : PtR (h 33) (h 34) n x y) (hn : n ≤ 11) (hp : p < n) (hq : q < n) : f_M_farOf (nI p) (nI q) h = some (nI (farN x y p q), h) := by
  obtain ⟨p1, p2, p3, p4⟩ := hP p hp
  obtain ⟨q1, q2, q3, q4⟩ := hP q hq
  unfold f_M_farOf
  rw [chk_nI (by omega) (by omega), chk_nI (by omega) (by omega), ix_nI (by omega), ix_nI (by omega), p1, q1, M_apart p3 q3, bnd_some]
  rw [chk_nI (by omega) (by omega), chk_nI (by omega) (by omega), p2, q2, M_apart p4 q4, bnd_some, nI_add]
  rfl
theorem M_isIn (f : Int32) {p : Nat} (hp : p < 32) (h : Hp) : f_M_isIn f (nI p) h = some (if bt f p = true then 1 else 0, h) := by
  unfold f_M_isIn
  rw [bt_shr f hp]
  cases bt f p <;> rfl
/-- the ranks of the class and of the reference -/
def rk2 (k : Int32) (at_ p : Nat) : Int32 := if p ≤ at_ then nI p - nI at_ + k else nI p - nI at_
def dRow (x y : Nat → Nat) (at_ p : Nat) : Int32 := ((nI (y p) - nI (y at_)) * 10 + nI (x p)) - nI (x at_)
def rkC (x y : Nat → Nat) (law at_ p : Nat) : Int32 := if law = 0 then nI (farN x y at_ p) else if law = 1 then - nI (farN x y at_ p) else if law = 2 then rk2 10 at_ p else if dRow x y at_ p ≤ 0 then dRow x y at_ p + 100 else dRow x y at_ p
def eRow (x y : Nat → Nat) (at_ p : Nat) : Int32 := ((10 * nI (y p) + nI (x p)) - (10 * nI (y at_) + nI (x at_))) + 100
def rkM (x y : Nat → Nat) (law at_ p : Nat) : Int32 := if law = 0 then nI (farN x y at_ p) else if law = 1 then - nI (farN x y at_ p) else if law = 2 then rk2 11 at_ p else eRow x y at_ p - eRow x y at_ p / 100 * 100
theorem isz {k : Nat} (hk : k < 32) (f : Int32) : ((f >>> (nI k &&& 31)) &&& 1 = 0) ↔ ¬ bt f k = true := by
  rw [bt_shr f hk]
  cases bt f k <;> decide
theorem Fr_numbers {p q : Nat} (hp : p < 12) (hq : q < 12) (h : Hp) : f_Fr_behindByNumbers (nI p) (nI q) h = some (rk2 10 p q, h) := by
  unfold f_Fr_behindByNumbers rk2
  by_cases hc : q ≤ p
  · rw [if_pos ((nI_leI (by omega) (by omega)).mpr hc), if_pos hc]
  · rw [if_neg (fun z => hc ((nI_leI (by omega) (by omega)).mp z)), if_neg hc]
theorem Fr_rows {a n p q : Nat} {x y : Nat → Nat} {h : Hp} (hP : PtR (h (a + 1)) (h (a + 2)) n x y) (hn : n ≤ 10) (hp : p < n) (hq : q < n) : f_Fr_behindByRows a (nI p) (nI q) h = some (if dRow x y p q ≤ 0 then dRow x y p q + 100 else dRow x y p q, h) := by
  obtain ⟨p1, p2, p3, p4⟩ := hP p hp
  obtain ⟨q1, q2, q3, q4⟩ := hP q hq
  unfold f_Fr_behindByRows dRow
  rw [chk_nI (by omega) (by omega), chk_nI (by omega) (by omega), chk_nI (by omega) (by omega), chk_nI (by omega) (by omega), ix_nI (by omega), ix_nI (by omega), p1, p2, q1, q2]
  split <;> rfl
theorem Fr_choose {a n law at_ : Nat} {x y : Nat → Nat} {f : Int32} {h : Hp} (hP : PtR (h (a + 1)) (h (a + 2)) n x y) (hs : h a 2 = nI n) (hn : n ≤ 10) (hl : law < 4) (ha : at_ < n) : f_Fr_choose a (nI law) (nI at_) f h = some (enc (sel (rkC x y law at_) (bt f) n), h) := by
  unfold f_Fr_choose
  refine sel_loop (F := fun m best key i => l_Fr_choose_9 m a (nI law) (nI at_) f best key i h) (res := fun b => some (b, h)) (by omega) ?_ ?_ n 0 (-1) 0 FUEL (by omega) (by unfold FUEL; omega) rfl (fun q e => by cases e)
  · intro m best key
    show l_Fr_choose_9 (m + 1) a (nI law) (nI at_) f best key (nI n) h = _
    rw [l_Fr_choose_9, hs, if_pos (nI_le (Nat.le_refl n) (by omega))]
  · intro m k best key hk
    show l_Fr_choose_9 (m + 1) a (nI law) (nI at_) f best key (nI k) h = _
    rw [l_Fr_choose_9, hs, if_neg (nI_ge hk (by omega)), nI_1]
    by_cases hb : bt f k = true
    · rw [if_neg (fun z => (isz (by omega) f).mp z hb), if_pos hb, Fr_apart hP hn ha hk, Fr_numbers (by omega) (by omega), Fr_rows hP hn ha hk]
      simp only [bnd_some]
      match law, hl with
      | 0, _ => rfl
      | 1, _ => rfl
      | 2, _ => rfl
      | 3, _ => rfl
    · rw [if_pos ((isz (by omega) f).mpr hb), if_neg hb]
theorem M_nextOf {n law at_ : Nat} {x y : Nat → Nat} {f : Int32} {h : Hp} (hP : PtR (h 33) (h 34) n x y) (hs : h 31 2 = nI n) (hn : n ≤ 11) (hl : law < 4) (ha : at_ < n) : f_M_nextOf (nI at_) (nI law) f h = some (enc (sel (rkM x y law at_) (bt f) n), h) := by
  unfold f_M_nextOf
  refine sel_loop (F := fun m best key i => l_M_nextOf_9 m (nI at_) (nI law) f best key i h) (res := fun b => some (b, h)) (by omega) ?_ ?_ n 0 (-1) 0 FUEL (by omega) (by unfold FUEL; omega) rfl (fun q e => by cases e)
  · intro m best key
    show l_M_nextOf_9 (m + 1) (nI at_) (nI law) f best key (nI n) h = _
    rw [l_M_nextOf_9, hs, if_pos (nI_le (Nat.le_refl n) (by omega))]
  · intro m k best key hk
    show l_M_nextOf_9 (m + 1) (nI at_) (nI law) f best key (nI k) h = _
    have hpl : ∀ p, p < n → f_M_place (nI p) h = some (10 * nI (y p) + nI (x p), h) := by
      intro p hp
      obtain ⟨p1, p2, p3, p4⟩ := hP p hp
      unfold f_M_place
      rw [chk_nI (by omega) (by omega), chk_nI (by omega) (by omega), ix_nI (by omega), p1, p2]
    rw [l_M_nextOf_9, hs, if_neg (nI_ge hk (by omega)), nI_1]
    simp only [M_farOf hP hn ha hk, hpl k hk, hpl at_ ha, M_isIn f (show k < 32 by omega), bnd_some]
    by_cases hb : bt f k = true
    · simp only [hb, if_true]
      match law, hl with
      | 0, _ => rfl
      | 1, _ => rfl
      | 2, _ =>
        by_cases hc : k ≤ at_
        · simp only [rkM, rk2, if_pos hc, if_pos ((nI_leI (a := k) (b := at_) (by omega) (by omega)).mpr hc)]; rfl
        · simp only [rkM, rk2, if_neg hc, if_neg (fun z => hc ((nI_leI (a := k) (b := at_) (by omega) (by omega)).mp z))]; rfl
      | 3, _ => rfl
    · simp only [hb]
      match law, hl with
      | 0, _ => rfl
      | 1, _ => rfl
      | 2, _ =>
        by_cases hc : k ≤ at_
        · simp only [if_pos ((nI_leI (a := k) (b := at_) (by omega) (by omega)).mpr hc)]; rfl
        · simp only [if_neg (fun z => hc ((nI_leI (a := k) (b := at_) (by omega) (by omega)).mp z))]; rfl
      | 3, _ => rfl
