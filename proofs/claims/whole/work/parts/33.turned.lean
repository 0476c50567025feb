/-! PURE: turned, more -/
theorem nine_sub : ∀ a, a < 10 → (9 : Int32) - nI a = nI (9 - a) := by decide
theorem PtR.push {X Y : Nat → Int32} {k u v : Nat} {x y : Nat → Nat} (h : PtR X Y k x y) (hu : u < 10) (hv : v < 10) (e1 : x k = u) (e2 : y k = v) : PtR (upd X k (nI u)) (upd Y k (nI v)) (k + 1) x y := by
  intro i hi
  by_cases e : i = k
  · subst e; rw [e1, e2]; exact ⟨by simp [upd], by simp [upd], hu, hv⟩
  · have := h i (by omega)
    exact ⟨by simp [upd, e]; exact this.1, by simp [upd, e]; exact this.2.1, this.2.2⟩
theorem add6 {h : Hp} {k u v : Nat} {x y : Nat → Nat} (hP : PtR (h 7) (h 8) k x y) (hu : u < 10) (hv : v < 10) (e1 : x k = u) (e2 : y k = v) : PtR ((hset (hset (hset h 7 k (nI u)) 8 k (nI v)) 6 2 (nI (k + 1))) 7) ((hset (hset (hset h 7 k (nI u)) 8 k (nI v)) 6 2 (nI (k + 1))) 8) (k + 1) x y := by
  have a1 : (hset (hset (hset h 7 k (nI u)) 8 k (nI v)) 6 2 (nI (k + 1))) 7 = upd (h 7) k (nI u) := by
    funext i
    rw [hset_ne (by omega), hset_ne (by omega), hrow]
  have a2 : (hset (hset (hset h 7 k (nI u)) 8 k (nI v)) 6 2 (nI (k + 1))) 8 = upd (h 8) k (nI v) := by
    funext i
    rw [hset_ne (by omega), hrow, show hset h 7 k (nI u) 8 = h 8 from funext fun i => hset_ne (by omega)]
  rw [a1, a2]
  exact hP.push hu hv e1 e2
theorem add6f {h : Hp} {k : Nat} {u v w : Int32} : cfr 6 h (hset (hset (hset h 7 k u) 8 k v) 6 2 w) := by
  intro b h1 h2 h3
  funext i
  rw [hset_ne (by omega), hset_ne (by omega), hset_ne (by omega)]
theorem cfr.tr {a : Nat} {h1 h2 h3 : Hp} (p : cfr a h1 h2) (q : cfr a h2 h3) : cfr a h1 h3 := fun b g1 g2 g3 => (q b g1 g2 g3).trans (p b g1 g2 g3)
theorem Fr_become {n : Nat} {x y : Nat → Nat} (hn : n ≤ 10) {h : Hp} (hs : h 3 2 = nI n) (hP : PtR (h 4) (h 5) n x y) : ∃ h', f_Fr_become 6 3 h = some ((), h') ∧ cfr 6 h h' ∧ h' 6 2 = nI n ∧ PtR (h' 7) (h' 8) n x y := by
  have key : ∀ (j k m : Nat) (h : Hp), k + j = n → j < m → h 3 2 = nI n → PtR (h 4) (h 5) n x y → h 6 2 = nI k → PtR (h 7) (h 8) k x y → ∃ h', l_Fr_become_7 m 6 3 (nI k) h = some ((), h') ∧ cfr 6 h h' ∧ h' 6 2 = nI n ∧ PtR (h' 7) (h' 8) n x y := by
    intro j
    induction j with
    | zero =>
      intro k m h hk hm h1 h2 h3 h4
      obtain ⟨m, rfl⟩ : ∃ m', m = m' + 1 := ⟨m - 1, by omega⟩
      have : k = n := by omega
      subst this
      exact ⟨h, by rw [l_Fr_become_7, h1, if_pos (nI_le (Nat.le_refl _) (by omega))], fun _ _ _ _ => rfl, h3, h4⟩
    | succ j ih =>
      intro k m h hk hm h1 h2 h3 h4
      obtain ⟨m, rfl⟩ : ∃ m', m = m' + 1 := ⟨m - 1, by omega⟩
      obtain ⟨p1, p2, p3, p4⟩ := h2 k (by omega)
      have f := add6f (h := h) (k := k) (u := nI (x k)) (v := nI (y k)) (w := nI (k + 1))
      obtain ⟨h', g1, g2, g3, g4⟩ := ih (k + 1) m (hset (hset (hset h 7 k (nI (x k))) 8 k (nI (y k))) 6 2 (nI (k + 1))) (by omega) (by omega) (by rw [f 3 (by omega) (by omega) (by omega)]; exact h1) (by rw [f 4 (by omega) (by omega) (by omega), f 5 (by omega) (by omega) (by omega)]; exact h2) (hset_eq _ _ _ _) (add6 h4 p3 p4 rfl rfl)
      refine ⟨h', ?_, f.tr g2, g3, g4⟩
      rw [l_Fr_become_7, h1, if_neg (nI_ge (by omega) (by omega)), chk_nI (by omega) (by omega), chk_nI (by omega) (by omega), ix_nI (by omega), show h (3 + 1) k = _ from p1, show h (3 + 2) k = _ from p2, Fr_add (by omega) h3, bnd_some, nI_1]
      exact g1
  have f : cfr 6 h (hset h 6 2 0) := fun b g1 g2 g3 => funext fun i => hset_ne (by omega)
  obtain ⟨h', g1, g2, g3, g4⟩ := key n 0 FUEL (hset h 6 2 0) (by omega) (show n < 5000 by omega) (by rw [f 3 (by omega) (by omega) (by omega)]; exact hs) (by rw [f 4 (by omega) (by omega) (by omega), f 5 (by omega) (by omega) (by omega)]; exact hP) (hset_eq _ _ _ _) (fun i hi => by omega)
  exact ⟨h', g1, f.tr g2, g3, g4⟩
theorem Fr_turned {n : Nat} {x y : Nat → Nat} (hn : n ≤ 10) {h : Hp} (hs : h 3 2 = nI n) (hP : PtR (h 4) (h 5) n x y) : ∃ h', f_Fr_becomeTurned 6 3 h = some ((), h') ∧ cfr 6 h h' ∧ h' 6 2 = nI n ∧ PtR (h' 7) (h' 8) n (fun i => 9 - y i) x := by
  have key : ∀ (j k m : Nat) (h : Hp), k + j = n → j < m → h 3 2 = nI n → PtR (h 4) (h 5) n x y → h 6 2 = nI k → PtR (h 7) (h 8) k (fun i => 9 - y i) x → ∃ h', l_Fr_becomeTurned_7 m 6 3 (nI k) h = some ((), h') ∧ cfr 6 h h' ∧ h' 6 2 = nI n ∧ PtR (h' 7) (h' 8) n (fun i => 9 - y i) x := by
    intro j
    induction j with
    | zero =>
      intro k m h hk hm h1 h2 h3 h4
      obtain ⟨m, rfl⟩ : ∃ m', m = m' + 1 := ⟨m - 1, by omega⟩
      have : k = n := by omega
      subst this
      exact ⟨h, by rw [l_Fr_becomeTurned_7, h1, if_pos (nI_le (Nat.le_refl _) (by omega))], fun _ _ _ _ => rfl, h3, h4⟩
    | succ j ih =>
      intro k m h hk hm h1 h2 h3 h4
      obtain ⟨m, rfl⟩ : ∃ m', m = m' + 1 := ⟨m - 1, by omega⟩
      obtain ⟨p1, p2, p3, p4⟩ := h2 k (by omega)
      have f := add6f (h := h) (k := k) (u := nI (9 - y k)) (v := nI (x k)) (w := nI (k + 1))
      obtain ⟨h', g1, g2, g3, g4⟩ := ih (k + 1) m (hset (hset (hset h 7 k (nI (9 - y k))) 8 k (nI (x k))) 6 2 (nI (k + 1))) (by omega) (by omega) (by rw [f 3 (by omega) (by omega) (by omega)]; exact h1) (by rw [f 4 (by omega) (by omega) (by omega), f 5 (by omega) (by omega) (by omega)]; exact h2) (hset_eq _ _ _ _) (add6 h4 (by omega) p3 rfl rfl)
      refine ⟨h', ?_, f.tr g2, g3, g4⟩
      rw [l_Fr_becomeTurned_7, h1, if_neg (nI_ge (by omega) (by omega)), chk_nI (by omega) (by omega), chk_nI (by omega) (by omega), ix_nI (by omega), show h (3 + 1) k = _ from p1, show h (3 + 2) k = _ from p2, nine_sub _ p4, Fr_add (by omega) h3, bnd_some, nI_1]
      exact g1
  have f : cfr 6 h (hset h 6 2 0) := fun b g1 g2 g3 => funext fun i => hset_ne (by omega)
  obtain ⟨h', g1, g2, g3, g4⟩ := key n 0 FUEL (hset h 6 2 0) (by omega) (show n < 5000 by omega) (by rw [f 3 (by omega) (by omega) (by omega)]; exact hs) (by rw [f 4 (by omega) (by omega) (by omega), f 5 (by omega) (by omega) (by omega)]; exact hP) (hset_eq _ _ _ _) (fun i hi => by omega)
  exact ⟨h', g1, f.tr g2, g3, g4⟩
/-- only the reference's points -/
def tfr (h h' : Hp) : Prop := ∀ b, b ≠ 33 → b ≠ 34 → h' b = h b
theorem tfr.tr {a b c : Hp} (p : tfr a b) (q : tfr b c) : tfr a c := fun k g1 g2 => (q k g1 g2).trans (p k g1 g2)
theorem Same.t {h h' : Hp} (hm : tfr h h') : Same h h' := by
  intro b k hs
  refine congrFun (hm b ?_ ?_) k <;> (rintro rfl; cases hs)
theorem M_turn9 {n : Nat} {x y : Nat → Nat} (hn : n ≤ 10) (K : Int32 → Int32 → Hp → Option (Unit × Hp)) (x1 x2 : Int32) : ∀ (j k m : Nat) (h : Hp), k + j = n → j < m → h 31 2 = nI n → (∀ i, i < n → x i < 10 ∧ y i < 10) → (∀ i, i < k → h 33 i = nI (9 - y i) ∧ h 34 i = nI (x i)) → (∀ i, k ≤ i → i < n → h 33 i = nI (x i) ∧ h 34 i = nI (y i)) → ∃ h', l_M_turns_9 K m x1 x2 (nI k) h = K x1 (x2 + 1) h' ∧ tfr h h' ∧ PtR (h' 33) (h' 34) n (fun i => 9 - y i) x := by
  intro j
  induction j with
  | zero =>
    intro k m h hk hm h1 hD h2 h3
    obtain ⟨m, rfl⟩ : ∃ m', m = m' + 1 := ⟨m - 1, by omega⟩
    have : k = n := by omega
    subst this
    exact ⟨h, by rw [l_M_turns_9, h1, if_pos (nI_le (Nat.le_refl _) (by omega))], fun _ _ _ => rfl, fun i hi => ⟨(h2 i hi).1, (h2 i hi).2, by show 9 - y i < 10; omega, (hD i hi).1⟩⟩
  | succ j ih =>
    intro k m h hk hm h1 hD h2 h3
    obtain ⟨m, rfl⟩ : ∃ m', m = m' + 1 := ⟨m - 1, by omega⟩
    obtain ⟨p1, p2⟩ := h3 k (Nat.le_refl k) (by omega)
    obtain ⟨p3, p4⟩ := hD k (by omega)
    have f : tfr h (hset (hset h 33 k (nI (9 - y k))) 34 k (nI (x k))) := fun b g1 g2 => funext fun i => by rw [hset_ne (by omega), hset_ne (by omega)]
    obtain ⟨h', g1, g2, g3⟩ := ih (k + 1) m (hset (hset h 33 k (nI (9 - y k))) 34 k (nI (x k))) (by omega) (by omega) (by rw [f 31 (by omega) (by omega)]; exact h1) hD (by
      intro i hi
      by_cases e : i = k
      · subst e; exact ⟨by rw [hset_ne (by omega), hset_eq], by rw [hset_eq]⟩
      · rw [hset_ne (by omega), hset_ne (by omega), hset_ne (by omega), hset_ne (by omega)]; exact h2 i (by omega)) (by
      intro i hi hi'
      rw [hset_ne (by omega), hset_ne (by omega), hset_ne (by omega), hset_ne (by omega)]; exact h3 i (by omega) hi')
    refine ⟨h', ?_, f.tr g2, g3⟩
    rw [l_M_turns_9, h1, if_neg (nI_ge (by omega) (by omega)), chk_nI (by omega) (by omega), chk_nI (by omega) (by omega), chk_nI (by omega) (by omega), chk_nI (by omega) (by omega), ix_nI (by omega), p1, p2, nine_sub _ p4, nI_1]
    exact g1
def rotP : Nat → (Nat → Nat) → (Nat → Nat) → (Nat → Nat) × (Nat → Nat)
  | 0, x, y => (x, y)
  | t + 1, x, y => rotP t (fun i => 9 - y i) x
theorem M_turns {n T : Nat} (hn : n ≤ 10) (hT : T < 5) : ∀ (t k m : Nat) (x y : Nat → Nat) (h : Hp), k + t = T → t < m → h 31 2 = nI n → PtR (h 33) (h 34) n x y → ∃ h', l_M_turns_2 m (nI T) (nI k) h = some ((), h') ∧ tfr h h' ∧ PtR (h' 33) (h' 34) n (rotP t x y).1 (rotP t x y).2 := by
  intro t
  induction t with
  | zero =>
    intro k m x y h hk hm h1 h2
    obtain ⟨m, rfl⟩ : ∃ m', m = m' + 1 := ⟨m - 1, by omega⟩
    exact ⟨h, by rw [l_M_turns_2, if_pos (nI_le (by omega) (by omega))], fun _ _ _ => rfl, h2⟩
  | succ t ih =>
    intro k m x y h hk hm h1 h2
    obtain ⟨m, rfl⟩ : ∃ m', m = m' + 1 := ⟨m - 1, by omega⟩
    obtain ⟨h', g1, g2, g3⟩ := M_turn9 hn (l_M_turns_2 m) (nI T) (nI k) n 0 FUEL h (by omega) (show n < 5000 by omega) h1 (fun i hi => (h2 i hi).2.2) (fun i hi => by omega) (fun i _ hi => ⟨(h2 i hi).1, (h2 i hi).2.1⟩)
    obtain ⟨h3, k1, k2, k3⟩ := ih (k + 1) m (fun i => 9 - y i) x h' (by omega) (by omega) (by rw [g2 31 (by omega) (by omega)]; exact h1) g3
    refine ⟨h3, ?_, g2.tr k2, k3⟩
    rw [l_M_turns_2, if_neg (nI_ge (by omega) (by omega)), ← k1, ← nI_1]
    exact g1
section TU
variable {h : Hp} {n : Nat} {x y : Nat → Nat} {thr hun rea : Nat} {hid flt : Int32}
def turV (x y : Nat → Nat) (n hun thr : Nat) (hid : Int32) (p l : Nat) : Int32 := if bt hid p = true then -3 else if sameB (rowP x y n hun thr hid p l) (rowP (fun i => 9 - y i) x n hun thr hid p l) = true then 1 else 0
theorem C_turnedP (c : Ctx h n x y thr hun rea hid flt) {p l : Nat} (hp : p < n) (hl : l < 4) : Ans (f_C_turned (nI p) (nI l)) (turV x y n hun thr hid p l) h := by
  have hn := c.1.1
  unfold Ans f_C_turned
  rw [C_can c, inN_nI hp (by omega), inN_nI hl (by omega), bnd_some, if_neg (by decide), C_isHidden c (by omega), bnd_some]
  unfold turV
  cases hb : bt hid p with
  | true => exact ⟨h, by rw [if_neg (by decide), if_pos rfl], Same.rf h⟩
  | false =>
    obtain ⟨h1, a1, a2, a3, a4⟩ := Fr_turned hn c.2.1.1 c.2.1.2.1
    have s1 := Same.of rfl a2
    have c1 := c.same s1
    obtain ⟨h2, b1, b2, b3, b4⟩ := C_layS c1 (Or.inl rfl) hp hl hid
    have c2 := c1.same b4
    obtain ⟨h3, d1, d2, d3⟩ := C_lay (a1 := 17) (a2 := 6) (wo := hid) (h := h2) hn hl c.1.2.2.2.1 c.1.2.2.1 (x := fun i => 9 - y i) (y := x) (fun i hi => ⟨by show 9 - y i < 10; omega, (c.1.2.1.1 i hi).1⟩) hp (by omega) (by rw [b3 (6 + 1) (by omega) (by omega), b3 (6 + 2) (by omega) (by omega)]; exact a4) (by rw [b3 6 (by omega) (by omega)]; exact a3) c2.2.1.2.2.2.2.1 c2.2.1.2.2.2.1
    have s3 := Same.sp (Or.inr (Or.inl rfl)) d3
    have u := Sp_hasRow (a := 15) (b := 17) (h := h3) (R := rowP x y n hun thr hid p l) (R' := rowP (fun i => 9 - y i) x n hun thr hid p l) (by rw [d3 (15 + 1) (by omega) (by omega)]; exact b2.2.1) (by rw [d3 15 (by omega) (by omega)]; exact b2.1) d2.2.1 d2.1 (rowP_ok hn hp l) (rowP_ok hn hp l)
    refine ⟨h3, ?_, (s1.tr b4).tr s3⟩
    rw [if_pos (by decide), a1, bnd_some, chk40, c1.2.1.2.2.1, b1, bnd_some, show ∀ o : Option (Int32 × Hp), chk 4 1 o = o from fun o => rfl, c2.2.1.2.2.1, d1, bnd_some, u, bnd_some, if_neg (show ¬ false = true by decide)]
    cases sameB (rowP x y n hun thr hid p l) (rowP (fun i => 9 - y i) x n hun thr hid p l) <;> rfl
theorem M_cmp {R R' : List Nat} (o : RowOK R) (o' : RowOK R') {h : Hp} (hR : RowAt (h 36) R) (hR' : RowAt (h 35) R') : ∀ (j k m : Nat) (b : Bool), k + j = R.length → j < m → (b = true → R.length = R'.length) → l_M_turnedOf_93 m (nI R.length) (if b = true then 1 else 0) (nI k) h = some (if (b && allF (celE R R') j (k + 1)) = true then 1 else 0, h) := by
  have o1 := o.1
  intro j
  induction j with
  | zero =>
    intro k m b hk hm hb
    obtain ⟨m, rfl⟩ : ∃ m', m = m' + 1 := ⟨m - 1, by omega⟩
    rw [l_M_turnedOf_93, if_pos (nI_le (by omega) (by omega)), allF, Bool.and_true]
    cases b <;> rfl
  | succ j ih =>
    intro k m b hk hm hb
    obtain ⟨m, rfl⟩ : ∃ m', m = m' + 1 := ⟨m - 1, by omega⟩
    rw [l_M_turnedOf_93, if_neg (nI_ge (by omega) (by omega)), nI_1, allF]
    cases b with
    | false => rfl
    | true =>
      have e := hb rfl
      have q1 := o.2 k (by omega)
      have q2 := o'.2 k (by omega)
      rw [if_neg (show ¬ (if true = true then (1 : Int32) else 0) = 0 by decide), chk_nI (by omega) (by omega), chk_nI (by omega) (by omega), ix_nI (by omega), hR.at (by omega), hR'.at (by omega)]
      by_cases hq : R.getD k 0 = R'.getD k 0
      · rw [if_pos (show nI (R'.getD k 0) = nI (R.getD k 0) by rw [hq]), show celE R R' (k + 1) = true from decide_eq_true hq, Bool.true_and]
        exact ih (k + 1) m true (by omega) (by omega) hb
      · rw [if_neg (fun w => hq (nI_inj (by omega) (by omega) w).symm), show celE R R' (k + 1) = false from decide_eq_false hq, Bool.false_and, Bool.and_false]
        exact ih (k + 1) m false (by omega) (by omega) (fun z => by cases z)
theorem M_keepR {R : List Nat} (o : RowOK R) (x1 x2 : Int32) : ∀ (j k m : Nat) (h : Hp), k + j = R.length → j < m → RowAt (h 35) R → (∀ i, i < k → h 36 i = nI (R.getD i 0)) → ∃ (m' : Nat) (h' : Hp), l_M_turnedOf_29 m x1 x2 (nI R.length) (nI k) h = l_M_turnedOf_29 (m' + 1) x1 x2 (nI R.length) (nI R.length) h' ∧ (∀ b, b ≠ 36 → h' b = h b) ∧ RowAt (h' 36) R := by
  have o1 := o.1
  intro j
  induction j with
  | zero =>
    intro k m h hk hm h1 h2
    obtain ⟨m, rfl⟩ : ∃ m', m = m' + 1 := ⟨m - 1, by omega⟩
    have : k = R.length := by omega
    subst this
    refine ⟨m, h, rfl, fun _ _ => rfl, fun i t hi => ?_⟩
    have hlt : i < R.length := by
      rcases Nat.lt_or_ge i R.length with z | z
      · exact z
      · rw [List.getElem?_eq_none z] at hi; cases hi
    rw [h2 i hlt]
    simp [List.getD, hi]
  | succ j ih =>
    intro k m h hk hm h1 h2
    obtain ⟨m, rfl⟩ : ∃ m', m = m' + 1 := ⟨m - 1, by omega⟩
    obtain ⟨m', h', g1, g2, g3⟩ := ih (k + 1) m (hset h 36 k (nI (R.getD k 0))) (by omega) (by omega) (by rw [show hset h 36 k (nI (R.getD k 0)) 35 = h 35 from funext fun i => hset_ne (by omega)]; exact h1) (by
      intro i hi
      by_cases e : i = k
      · subst e; exact hset_eq _ _ _ _
      · rw [hset_ne (by omega)]; exact h2 i (by omega))
    refine ⟨m', h', ?_, fun b hb => by rw [g2 b hb]; exact funext fun i => hset_ne (by omega), g3⟩
    rw [← g1, l_M_turnedOf_29, if_neg (nI_ge (by omega) (by omega)), chk_nI (by omega) (by omega), chk_nI (by omega) (by omega), ix_nI (by omega), h1.at (by omega), nI_1]
theorem Same.w36 {h h' : Hp} (hm : ∀ b, b ≠ 36 → h' b = h b) : Same h h' := by
  intro b k hs
  refine congrFun (hm b ?_) k
  rintro rfl; cases hs
theorem M_turnedOf (c : Ctx h n x y thr hun rea hid flt) (hM : MP h n x y) {p l : Nat} (hp : p < n) (hl : l < 4) : AnsM n x y (f_M_turnedOf (nI p) (nI l)) (turV x y n hun thr hid p l) h := by
  have hn := c.1.1
  unfold AnsM f_M_turnedOf
  rw [M_isHidden c (by omega), bnd_some]
  unfold turV
  cases hb : bt hid p with
  | true => exact ⟨h, by rw [if_neg (by decide), if_pos rfl], Same.rf h, hM⟩
  | false =>
    have o := rowP_ok (x := x) (y := y) (hun := hun) (thr := thr) (hid := hid) hn hp l
    have o' := rowP_ok (x := fun i => 9 - y i) (y := x) (hun := hun) (thr := thr) (hid := hid) hn hp l
    have o1 := o.1
    have o1' := o'.1
    obtain ⟨h1, g1, g2, g3, g4, g5, g6⟩ := M_layS c hM hp hl hid
    have g20 : h1 31 10 = nI (rowP x y n hun thr hid p l).length := g2.1
    obtain ⟨m', h2, a1, a2, a3⟩ := M_keepR o (nI p) (nI l) (rowP x y n hun thr hid p l).length 0 FUEL h1 (by omega) (show (rowP x y n hun thr hid p l).length < 5000 by omega) g2.2.1 (fun i hi => by omega)
    have s2 := Same.w36 a2
    have M2 : MP h2 n x y := by unfold MP; rw [a2 31 (by omega), a2 33 (by omega), a2 34 (by omega)]; exact g5
    obtain ⟨h3, b1, b2, b3⟩ := M_turns (T := 1) hn (by omega) 1 0 FUEL x y h2 (by omega) (show 1 < 5000 by omega) M2.1 M2.2
    have s3 := Same.t b2
    have c3 := (g6.same s2).same s3
    obtain ⟨h4, d1, d2, d3⟩ := M_lays (wo := hid) (h := h3) hn hl c.1.2.2.2.1 c.1.2.2.1 (x := fun i => 9 - y i) (y := x) ⟨fun i hi => ⟨by show 9 - y i < 10; omega, (c.1.2.1.1 i hi).1⟩, fun i j hi hj e1 e2 => c.1.2.1.2 i j hi hj e2 (by
      have q1 := (c.1.2.1.1 i hi).2
      have q2 := (c.1.2.1.1 j hj).2
      have e1' : 9 - y i = 9 - y j := e1
      omega)⟩ hp b3 (by rw [b2 31 (by omega) (by omega)]; exact M2.1) c3.2.2.1.2.2.1 c3.2.2.1.2.1
    have s4 := Same.mfr d3
    obtain ⟨h5, e1, e2, e3⟩ := M_turns (T := 3) hn (by omega) 3 0 FUEL (fun i => 9 - y i) x h4 (by omega) (show 3 < 5000 by omega) (by rw [d3.2 2 (by omega) (by omega) (by omega), b2 31 (by omega) (by omega)]; exact M2.1) (by rw [d3.1 33 (by omega) (by omega), d3.1 34 (by omega) (by omega)]; exact b3)
    have s5 := Same.t e2
    have M5 : MP h5 n x y := by
      refine ⟨by rw [e2 31 (by omega) (by omega), d3.2 2 (by omega) (by omega) (by omega), b2 31 (by omega) (by omega)]; exact M2.1, fun i hi => ?_⟩
      obtain ⟨q1, q2⟩ := c.1.2.1.1 i hi
      obtain ⟨r1, r2, -⟩ := e3 i hi
      refine ⟨r1.trans (congrArg nI (show 9 - (9 - x i) = x i by omega)), r2.trans (congrArg nI (show 9 - (9 - y i) = y i by omega)), q1, q2⟩
    have f1 : f_M_turns 1 h2 = some ((), h3) := b1
    have f3 : f_M_turns 3 h4 = some ((), h5) := e1
    have r10 : h5 31 10 = nI (rowP (fun i => 9 - y i) x n hun thr hid p l).length := by rw [e2 31 (by omega) (by omega)]; exact d2.1
    have k36 : RowAt (h5 36) (rowP x y n hun thr hid p l) := by rw [e2 36 (by omega) (by omega), d3.1 36 (by omega) (by omega), b2 36 (by omega) (by omega)]; exact a3
    have k35 : RowAt (h5 35) (rowP (fun i => 9 - y i) x n hun thr hid p l) := by rw [e2 35 (by omega) (by omega)]; exact d2.2.1
    have u := fun b hb => M_cmp o o' k36 k35 (rowP x y n hun thr hid p l).length 0 FUEL b (by omega) (show (rowP x y n hun thr hid p l).length < 5000 by omega) hb
    rw [show nI 0 = (0 : Int32) from rfl] at a1 u
    refine ⟨h5, ?_, (((g4.tr s2).tr s3).tr s4).tr s5, M5⟩
    rw [if_pos (by decide), c.2.2.1.1, g1, bnd_some, g20, a1, l_M_turnedOf_29, if_pos (nI_le (Nat.le_refl _) (by omega)), f1, bnd_some, c3.2.2.1.1, d1, bnd_some, f3, bnd_some, r10, if_neg (show ¬ false = true by decide)]
    unfold sameB
    rw [allF]
    by_cases e : (rowP x y n hun thr hid p l).length = (rowP (fun i => 9 - y i) x n hun thr hid p l).length
    · rw [if_pos (congrArg nI e.symm), show celE (rowP x y n hun thr hid p l) (rowP (fun i => 9 - y i) x n hun thr hid p l) 0 = true from decide_eq_true e]
      exact u true (fun _ => e)
    · rw [if_neg (fun w => e (nI_inj (by omega) (by omega) w).symm), show celE (rowP x y n hun thr hid p l) (rowP (fun i => 9 - y i) x n hun thr hid p l) 0 = false from decide_eq_false e]
      exact u false (fun z => by cases z)
end TU
theorem op_turned (x1 x2 : Int32) : OpOK Rel (f_C_turned x1 x2) (f_M_turned x1 x2) := by
  refine op_of (fun h n x y thr hun rea hid flt c => ?_)
  have hn := c.1.1
  by_cases hb : (inN x1 n && inN x2 4) = true
  · obtain ⟨b1, b2⟩ := Bool.and_eq_true_iff.mp hb
    obtain ⟨p, hp, rfl⟩ := inN_ex b1 (by omega)
    obtain ⟨l, hl, rfl⟩ := inN_ex b2 (by omega)
    refine ⟨_, C_turnedP c hp hl, fun g cg => ?_⟩
    obtain ⟨h1, g1, g2, g3, g4⟩ := M_isWeb cg (nI p) (nI l)
    obtain ⟨h2, k1, k2, k3⟩ := M_turnedOf g4 g3 hp hl
    refine ⟨h2, ?_, g2.tr k2⟩
    unfold f_M_turned
    rw [g1, hb, bnd_some, if_neg (by decide), k1, bnd_some]
  · refine ⟨-2, ⟨h, ?_, Same.rf h⟩, fun g cg => ?_⟩
    · unfold f_C_turned
      rw [C_can c, bnd_some, if_neg hb, if_pos rfl]
    · obtain ⟨h1, g1, g2, g3, g4⟩ := M_isWeb cg x1 x2
      refine ⟨h1, ?_, g2⟩
      unfold f_M_turned
      rw [g1, bnd_some, if_neg hb, if_pos rfl]
