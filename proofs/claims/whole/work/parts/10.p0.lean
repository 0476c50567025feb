/-! PURE: numbers, cells -/
theorem bnd_some {ρ σ : Type} (r : ρ) (h : Hp) (f : ρ → Hp → Option σ) : bnd (some (r, h)) f = f r h := rfl
theorem hset_app (h : Hp) (a k : Nat) (v : Int32) (b j : Nat) : hset h a k v b j = if b = a ∧ j = k then v else h b j := by
  unfold hset upd
  by_cases hb : b = a
  · subst hb; by_cases hj : j = k <;> simp [hj]
  · simp [hb]
theorem hset_eq (h : Hp) (a k : Nat) (v : Int32) : hset h a k v a k = v := by simp [hset_app]
theorem hset_ne {h : Hp} {a k : Nat} {v : Int32} {b j : Nat} (hb : b ≠ a ∨ j ≠ k) : hset h a k v b j = h b j := by
  rw [hset_app, if_neg]; rintro ⟨rfl, rfl⟩; rcases hb with q | q <;> exact q rfl
theorem ix_nI {k : Nat} (h : k < 2 ^ 31) : ix (nI k) = k := nI_clamp h
theorem inb_nI {k n : Nat} (h : k < n) (hn : n < 2 ^ 31) : inb (nI k) n = true := by
  have h1 : ¬ nI k < 0 := nI_pos (by omega)
  have h2 : (nI k).toNatClampNeg = k := nI_clamp (by omega)
  simp only [inb, h1, h2, h, decide_false, decide_true, Bool.not_false, Bool.and_self]
theorem chk_nI {α : Type} {k n : Nat} {o : Option α} (h : k < n) (hn : n < 2 ^ 31) : chk n (nI k) o = o := by rw [chk, if_pos (inb_nI h hn)]
theorem lt_iff (x y : Int32) : x < y ↔ x.toInt < y.toInt := Int32.lt_iff_toInt_lt
theorem le_iff (x y : Int32) : x ≤ y ↔ x.toInt ≤ y.toInt := Int32.le_iff_toInt_le
theorem eq_iff (x y : Int32) : x = y ↔ x.toInt = y.toInt := Int32.toInt_inj.symm
/-- an int is a number below n, or it isn't -/
def isN (x : Int32) (n : Nat) : Prop := 0 ≤ x.toInt ∧ x.toInt < n
theorem isN_ex {x : Int32} {n : Nat} (h : isN x n) (hn : n < 2 ^ 31) : ∃ k, k < n ∧ x = nI k := by
  obtain ⟨h1, h2⟩ := h
  refine ⟨x.toInt.toNat, by omega, ?_⟩
  apply Int32.toInt_inj.mp
  rw [nI_toInt (by omega)]
  omega
theorem isN_nI {k n : Nat} (h : k < n) (hn : n < 2 ^ 31) : isN (nI k) n := by
  unfold isN; rw [nI_toInt (by omega)]; omega
theorem isN_ix {x : Int32} {n : Nat} (h : isN x n) (hn : n < 2 ^ 31) : ix x < n ∧ x = nI (ix x) := by
  obtain ⟨k, hk, rfl⟩ := isN_ex h hn
  rw [ix_nI (by omega)]; exact ⟨hk, rfl⟩
theorem m1_ne {k : Nat} (h : k < 2 ^ 31) : ¬ nI k = -1 := by
  rw [eq_iff, nI_toInt h]
  have : (-1 : Int32).toInt = -1 := by decide
  rw [this]; omega
def enc : Option Nat → Int32
  | none => -1
  | some k => nI k
/-! bits -/
def bt (f : Int32) (p : Nat) : Bool := f.toBitVec.getLsbD p
theorem sh_amt : ∀ p, p < 32 → ((nI p &&& 31).toBitVec.smod 32).toNat = p := by decide
theorem bt_shr (f : Int32) {p : Nat} (hp : p < 32) : (f >>> (nI p &&& 31)) &&& 1 = if bt f p = true then 1 else 0 := by
  apply Int32.toBitVec_inj.mp
  rw [Int32.toBitVec_and, Int32.toBitVec_shiftRight, BitVec.sshiftRight', sh_amt p hp]
  unfold bt
  cases hb : f.toBitVec.getLsbD p with
  | true =>
    simp only [if_true]
    apply BitVec.eq_of_getLsbD_eq
    intro i hi
    rw [BitVec.getLsbD_and, show (1 : Int32).toBitVec = 1#32 from rfl, BitVec.getLsbD_one]
    cases i with
    | zero => simp [BitVec.getLsbD_sshiftRight, hp, hb]
    | succ i => simp
  | false =>
    simp only [Bool.false_eq_true, if_false]
    apply BitVec.eq_of_getLsbD_eq
    intro i hi
    rw [BitVec.getLsbD_and, show (1 : Int32).toBitVec = 1#32 from rfl, show (0 : Int32).toBitVec = 0#32 from rfl, BitVec.getLsbD_one]
    cases i with
    | zero =>
      have e : (f.toBitVec.sshiftRight p).getLsbD 0 = false := by
        rw [BitVec.getLsbD_sshiftRight, Nat.add_zero, hb]
        simp [hp]
      rw [e]; simp
    | succ i => simp
theorem bt_and (f g : Int32) (p : Nat) : bt (f &&& g) p = (bt f p && bt g p) := by unfold bt; rw [Int32.toBitVec_and, BitVec.getLsbD_and]
theorem bt_or (f g : Int32) (p : Nat) : bt (f ||| g) p = (bt f p || bt g p) := by unfold bt; rw [Int32.toBitVec_or, BitVec.getLsbD_or]
theorem bt_not (f : Int32) {p : Nat} (hp : p < 32) : bt (f ^^^ (-1)) p = !bt f p := by
  unfold bt
  rw [Int32.toBitVec_xor, BitVec.getLsbD_xor, show (-1 : Int32).toBitVec = BitVec.allOnes 32 from rfl, BitVec.getLsbD_allOnes]
  simp [hp]
theorem bt_one : ∀ t, t < 12 → ∀ p, p < 12 → bt ((1 : Int32) <<< (nI t &&& 31)) p = decide (p = t) := by decide
theorem bt_all : ∀ n, n < 12 → ∀ p, p < 12 → bt (((1 : Int32) <<< (nI n &&& 31)) - 1) p = decide (p < n) := by decide
theorem bt_del (f : Int32) {t p : Nat} (ht : t < 12) (hp : p < 12) : bt (f &&& (((1 : Int32) <<< (nI t &&& 31)) ^^^ (-1))) p = (bt f p && !decide (p = t)) := by
  rw [bt_and, bt_not _ (by omega), bt_one t ht p hp]
/-! the least of those that are free -/
def sel (rk : Nat → Int32) (fr : Nat → Bool) : Nat → Option Nat
  | 0 => none
  | k + 1 => if fr k = true then (match sel rk fr k with
    | none => some k
    | some q => if rk q ≤ rk k then some q else some k) else sel rk fr k
theorem sel_in {rk : Nat → Int32} {fr : Nat → Bool} : ∀ {n q : Nat}, sel rk fr n = some q → q < n ∧ fr q = true := by
  intro n
  induction n with
  | zero => intro q h; cases h
  | succ k ih =>
    intro q h
    rw [sel] at h
    split at h
    · next hk =>
      split at h
      · cases h; exact ⟨by omega, hk⟩
      · next q' hq =>
        have := ih hq
        split at h
        · cases h; exact ⟨by omega, this.2⟩
        · cases h; exact ⟨by omega, hk⟩
    · have := ih h; exact ⟨by omega, this.2⟩
theorem sel_none {rk : Nat → Int32} {fr : Nat → Bool} : ∀ {n : Nat}, sel rk fr n = none → ∀ p, p < n → fr p = false := by
  intro n
  induction n with
  | zero => intro _ p hp; omega
  | succ k ih =>
    intro h p hp
    rw [sel] at h
    split at h
    · split at h
      · cases h
      · split at h <;> cases h
    · next hk =>
      by_cases e : p = k
      · subst e; simpa using hk
      · exact ih h p (by omega)
theorem sel_congr {rk rk' : Nat → Int32} {fr fr' : Nat → Bool} : ∀ {n : Nat}, (∀ p, p < n → fr p = fr' p) → (∀ p q, p < n → q < n → fr p = true → fr q = true → (rk q ≤ rk p ↔ rk' q ≤ rk' p)) → sel rk fr n = sel rk' fr' n := by
  intro n
  induction n with
  | zero => intro _ _; rfl
  | succ k ih =>
    intro hf hr
    have e := ih (fun p hp => hf p (by omega)) (fun p q hp hq => hr p q (by omega) (by omega))
    rw [sel, sel, ← hf k (by omega), ← e]
    split
    · next hk =>
      cases hs : sel rk fr k with
      | none => rfl
      | some q =>
        have hq := sel_in hs
        have := hr k q (by omega) (by omega) hk hq.2
        simp only [this]
    · rfl
theorem sel_loop {β : Type} {F : Nat → Int32 → Int32 → Int32 → β} {rk : Nat → Int32} {fr : Nat → Bool} {n : Nat} {res : Int32 → β} (hn : n < 2 ^ 31)
    (hend : ∀ m best key, F (m + 1) best key (nI n) = res best)
    (hstep : ∀ m k best key, k < n → F (m + 1) best key (nI k) = if fr k = true then (if best = -1 then F m (nI k) (rk k) (nI (k + 1)) else if key ≤ rk k then F m best key (nI (k + 1)) else F m (nI k) (rk k) (nI (k + 1))) else F m best key (nI (k + 1))) :
    ∀ j k best key m, k + j = n → j < m → best = enc (sel rk fr k) → (∀ q, sel rk fr k = some q → key = rk q) → F m best key (nI k) = res (enc (sel rk fr n)) := by
  intro j
  induction j with
  | zero =>
    intro k best key m hk hm hb _
    obtain ⟨m, rfl⟩ : ∃ m', m = m' + 1 := ⟨m - 1, by omega⟩
    have : k = n := by omega
    subst this
    rw [hend, hb]
  | succ j ih =>
    intro k best key m hk hm hb hq
    obtain ⟨m, rfl⟩ : ∃ m', m = m' + 1 := ⟨m - 1, by omega⟩
    rw [hstep m k best key (by omega)]
    have es : sel rk fr (k + 1) = if fr k = true then (match sel rk fr k with
        | none => some k
        | some q => if rk q ≤ rk k then some q else some k) else sel rk fr k := by rw [sel]
    by_cases hf : fr k = true
    · rw [if_pos hf]
      rw [if_pos hf] at es
      cases hs : sel rk fr k with
      | none =>
        rw [hs] at hb es
        rw [if_pos (show best = -1 from hb)]
        exact ih (k + 1) _ _ m (by omega) (by omega) (by rw [es]; rfl) (fun q e => by rw [es] at e; cases e; rfl)
      | some q =>
        have hin := sel_in hs
        rw [hs] at hb es
        have hkey := hq q hs
        rw [if_neg (by rw [hb]; exact m1_ne (by omega)), hkey]
        dsimp only at es
        by_cases hr : rk q ≤ rk k
        · rw [if_pos hr]
          rw [if_pos hr] at es
          exact ih (k + 1) _ _ m (by omega) (by omega) (by rw [es, hb]) (fun q' e => by rw [es] at e; cases e; rfl)
        · rw [if_neg hr]
          rw [if_neg hr] at es
          exact ih (k + 1) _ _ m (by omega) (by omega) (by rw [es]; rfl) (fun q' e => by rw [es] at e; cases e; rfl)
    · rw [if_neg hf]
      rw [if_neg hf] at es
      exact ih (k + 1) _ _ m (by omega) (by omega) (by rw [es, hb]) (fun q' e => hq q' (by rw [← es]; exact e))
