/-! PURE: tells -/
def cel (R : List Nat) : Nat → Nat
  | 0 => R.length
  | i + 1 => R.getD i 0
def celE (R R' : List Nat) (i : Nat) : Bool := decide (cel R i = cel R' i)
def sameB (R R' : List Nat) : Bool := allF (celE R R') (R.length + 1) 0
def RowOK (R : List Nat) : Prop := R.length ≤ 10 ∧ ∀ i, i < R.length → R.getD i 0 < 10
theorem Sp_hasRow {a b : Nat} {R R' : List Nat} {h : Hp} (hR : RowAt (h (a + 1)) R) (hs : h a 1 = nI R.length) (hR' : RowAt (h (b + 1)) R') (hs' : h b 1 = nI R'.length) (o : RowOK R) (o' : RowOK R') : f_Sp_hasRowOf a b h = some (if sameB R R' = true then 1 else 0, h) := by
  have o1 := o.1
  have o1' := o'.1
  unfold f_Sp_hasRowOf
  rw [hs, hs']
  by_cases e : R.length = R'.length
  · have key : ∀ (j k m : Nat), k + j = R.length → j < m → l_Sp_hasRowOf_15 m a b (nI k) h = some (if allF (celE R R') j (k + 1) = true then 1 else 0, h) := by
      intro j
      induction j with
      | zero =>
        intro k m hk hm
        obtain ⟨m, rfl⟩ : ∃ m', m = m' + 1 := ⟨m - 1, by omega⟩
        rw [l_Sp_hasRowOf_15, hs, if_pos (nI_le (by omega) (by omega))]; rfl
      | succ j ih =>
        intro k m hk hm
        obtain ⟨m, rfl⟩ : ∃ m', m = m' + 1 := ⟨m - 1, by omega⟩
        have q1 := o.2 k (by omega)
        have q2 := o'.2 k (by omega)
        rw [l_Sp_hasRowOf_15, hs, if_neg (nI_ge (by omega) (by omega)), chk_nI (by omega) (by omega), chk_nI (by omega) (by omega), ix_nI (by omega), hR.at (by omega), hR'.at (by omega), nI_1, allF]
        by_cases hq : R.getD k 0 = R'.getD k 0
        · rw [if_pos (show nI (R.getD k 0) = nI (R'.getD k 0) by rw [hq]), ih (k + 1) m (by omega) (by omega), show celE R R' (k + 1) = true from decide_eq_true hq, Bool.true_and]
        · rw [if_neg (fun w => hq (nI_inj (by omega) (by omega) w)), show celE R R' (k + 1) = false from decide_eq_false hq]; rfl
    have := key R.length 0 FUEL (by omega) (show R.length < 5000 by omega)
    rw [if_pos (show nI R.length = nI R'.length by rw [e])]
    unfold sameB
    rw [allF, show celE R R' 0 = true from decide_eq_true e, Bool.true_and]
    exact this
  · rw [if_neg (fun w => e (nI_inj (by omega) (by omega) w))]
    unfold sameB
    rw [allF, show celE R R' 0 = false from decide_eq_false e]; rfl
def WebAt (h : Hp) (l : Nat) (R : List Nat) : Prop := ∀ i, i ≤ R.length → h 40 (11 * l + i) = nI (cel R i)
theorem cel_lt {R : List Nat} (o : RowOK R) {i : Nat} (hi : i ≤ R.length) : cel R i < 11 := by
  cases i with
  | zero => exact Nat.lt_succ_of_le o.1
  | succ i => exact Nat.lt_trans (o.2 i (by omega)) (by omega)
theorem e11 : ∀ l, l < 4 → (11 : Int32) * nI l = nI (11 * l) := by decide
theorem M_alike {l l' : Nat} {R R' : List Nat} {h : Hp} (hl : l < 4) (hl' : l' < 4) (w : WebAt h l R) (w' : WebAt h l' R') (o : RowOK R) (o' : RowOK R') : f_M_areAlike (nI l) (nI l') h = some (if sameB R R' = true then 1 else 0, h) := by
  have o1 := o.1
  have o1' := o'.1
  have w0 : h 40 (11 * l) = nI R.length := w 0 (by omega)
  have key : ∀ (j k m : Nat) (b : Bool), k + j = R.length + 1 → j < m → (b = true → k = 0 ∨ R.length = R'.length) → l_M_areAlike_5 m (nI l) (nI l') (if b = true then 1 else 0) (nI k) h = some (if (b && allF (celE R R') j k) = true then 1 else 0, h) := by
    intro j
    induction j with
    | zero =>
      intro k m b hk hm hb
      obtain ⟨m, rfl⟩ : ∃ m', m = m' + 1 := ⟨m - 1, by omega⟩
      rw [l_M_areAlike_5, e11 l hl, chk_nI (by omega) (by omega), ix_nI (by omega), w0, if_pos (nI_lt (by omega) (by omega)), b01, allF, Bool.and_true]
    | succ j ih =>
      intro k m b hk hm hb
      obtain ⟨m, rfl⟩ : ∃ m', m = m' + 1 := ⟨m - 1, by omega⟩
      rw [l_M_areAlike_5, e11 l hl, chk_nI (by omega) (by omega), ix_nI (by omega), w0, if_neg (nI_nlt (by omega) (by omega)), nI_1]
      cases b with
      | false => exact ih (k + 1) m false (by omega) (by omega) (fun z => by cases z)
      | true =>
        have hb' := hb rfl
        have q1 := cel_lt o (i := k) (by omega)
        have q2 := cel_lt o' (i := k) (by omega)
        rw [if_neg (show ¬ (if true = true then (1 : Int32) else 0) = 0 by decide), e11 l' hl', nI_add, nI_add, chk_nI (by omega) (by omega), chk_nI (by omega) (by omega), ix_nI (by omega), ix_nI (by omega), w k (by omega), w' k (by omega), allF]
        by_cases hq : cel R k = cel R' k
        · rw [if_pos (show nI (cel R k) = nI (cel R' k) by rw [hq]), show celE R R' k = true from decide_eq_true hq, Bool.true_and]
          refine ih (k + 1) m true (by omega) (by omega) (fun _ => Or.inr ?_)
          rcases hb' with z | z
          · subst z; exact hq
          · exact z
        · rw [if_neg (fun w => hq (nI_inj (by omega) (by omega) w)), show celE R R' k = false from decide_eq_false hq, Bool.false_and, Bool.and_false]
          exact ih (k + 1) m false (by omega) (by omega) (fun z => by cases z)
  exact key (R.length + 1) 0 FUEL true (by omega) (show R.length + 1 < 5000 by omega) (fun _ => Or.inl rfl)
def unB (v : Int32) (rw' : Nat → List Nat) (l l' : Nat) : Bool := !(bt v l' && sameB (rw' l) (rw' l'))
def unS (v : Int32) (rw' : Nat → List Nat) (l : Nat) (s : Int32) : Int32 := if (bt v l && allF (unB v rw' l) l 0) = true then s + 1 else s
section TE
variable {n : Nat} {x y : Nat → Nat} {thr hun rea : Nat} {hid flt : Int32}
theorem C_un1 {l : Nat} (hl : l < 4) {rw' : Nat → List Nat} {v x1 x3 : Int32} {h : Hp} (ho : ∀ l, RowOK (rw' l)) (hR : ∀ l', l' ≤ l → bt v l' = true → RowAt (h (15 + 2 * l' + 1)) (rw' l') ∧ h (15 + 2 * l') 1 = nI (rw' l').length) (hv : bt v l = true) (K : Int32 → Int32 → Int32 → Int32 → Hp → Option (Int32 × Hp)) : ∀ (j k m : Nat) (b : Bool), k + j = l → j < m → l_C_unlikeWebs_53 K m x1 v x3 (nI l) (15 + 2 * l) (if b = true then 1 else 0) (nI k) h = K x1 v (if (b && allF (unB v rw' l) j k) = true then x3 + 1 else x3) (nI (l + 1)) h := by
  intro j
  induction j with
  | zero =>
    intro k m b hk hm
    obtain ⟨m, rfl⟩ : ∃ m', m = m' + 1 := ⟨m - 1, by omega⟩
    rw [l_C_unlikeWebs_53, if_pos (nI_le (by omega) (by omega)), nI_1, allF, Bool.and_true]
    cases b <;> rfl
  | succ j ih =>
    intro k m b hk hm
    obtain ⟨m, rfl⟩ : ∃ m', m = m' + 1 := ⟨m - 1, by omega⟩
    rw [l_C_unlikeWebs_53, if_neg (nI_ge (by omega) (by omega)), bt_shr v (by omega), nI_1, allF]
    cases hb : bt v k with
    | false =>
      rw [if_neg (show ¬ (if false = true then (1 : Int32) else 0) = 1 by decide), show unB v rw' l k = true by unfold unB; rw [hb]; rfl, Bool.true_and]
      exact ih (k + 1) m b (by omega) (by omega)
    | true =>
      obtain ⟨a1, a2⟩ := hR l (Nat.le_refl l) hv
      obtain ⟨b1, b2⟩ := hR k (by omega) hb
      rw [if_pos (show (if true = true then (1 : Int32) else 0) = 1 by decide), chk_nI (by omega) (by omega), ix_nI (by omega), Sp_hasRow a1 a2 b1 b2 (ho l) (ho k), bnd_some]
      cases hq : sameB (rw' l) (rw' k) with
      | false => rw [if_pos (show (if false = true then (1 : Int32) else 0) = 0 by decide), show unB v rw' l k = true by unfold unB; rw [hb, hq]; rfl, Bool.true_and]; exact ih (k + 1) m b (by omega) (by omega)
      | true =>
        rw [if_neg (show ¬ (if true = true then (1 : Int32) else 0) = 0 by decide), show unB v rw' l k = false by unfold unB; rw [hb, hq]; rfl, Bool.false_and, Bool.and_false]
        exact ih (k + 1) m false (by omega) (by omega)
theorem rowP_ok (hn : n ≤ 10) {p : Nat} (hp : p < n) (l : Nat) : RowOK (rowP x y n hun thr hid p l) := ⟨Nat.le_trans (webL_len (x := x) (y := y) (hun := hun) (thr := thr) (l := l) (wo := hid) hn hp) hn, fun _ hi => Nat.lt_of_lt_of_le (rowP_lt hp hi) hn⟩
theorem C_unlike {p : Nat} (hp : p < n) (v : Int32) : ∀ (j k m : Nat) (s : Int32) (h : Hp), k + j = 4 → j < m → Ctx h n x y thr hun rea hid flt → (∀ l', l' < k → bt v l' = true → RowAt (h (15 + 2 * l' + 1)) (rowP x y n hun thr hid p l') ∧ h (15 + 2 * l') 1 = nI (rowP x y n hun thr hid p l').length) → ∃ h', l_C_unlikeWebs_5 m (nI p) v s (nI k) h = some (itr (unS v (rowP x y n hun thr hid p)) j k s, h') ∧ Same h h' := by
  intro j
  induction j with
  | zero =>
    intro k m s h hk hm c hR
    obtain ⟨m, rfl⟩ : ∃ m', m = m' + 1 := ⟨m - 1, by omega⟩
    exact ⟨h, by rw [l_C_unlikeWebs_5, if_pos (show (4 : Int32) ≤ nI k from nI_le (a := 4) (by omega) (by omega))]; rfl, Same.rf h⟩
  | succ j ih =>
    intro k m s h hk hm c hR
    obtain ⟨m, rfl⟩ : ∃ m', m = m' + 1 := ⟨m - 1, by omega⟩
    have hk4 : k < 4 := by omega
    rw [l_C_unlikeWebs_5, if_neg (show ¬ (4 : Int32) ≤ nI k from nI_ge (b := 4) hk4 (by omega)), bt_shr v (by omega), nI_1, itr]
    cases hb : bt v k with
    | false =>
      rw [if_pos (show (if false = true then (1 : Int32) else 0) = 0 by decide), show unS v (rowP x y n hun thr hid p) k s = s by unfold unS; rw [hb]; rfl]
      refine ih (k + 1) m s h (by omega) (by omega) c (fun l' h1 h2 => ?_)
      by_cases e : l' = k
      · subst e; rw [hb] at h2; cases h2
      · exact hR l' (by omega) h2
    | true =>
      obtain ⟨h', g1, g2, g3, g4⟩ := C_layS c (s := 15 + 2 * k) (by omega) hp hk4 hid
      have hR' : ∀ l', l' < k + 1 → bt v l' = true → RowAt (h' (15 + 2 * l' + 1)) (rowP x y n hun thr hid p l') ∧ h' (15 + 2 * l') 1 = nI (rowP x y n hun thr hid p l').length := by
        intro l' h1 h2
        by_cases e : l' = k
        · subst e; exact ⟨g2.2.1, g2.1⟩
        · rw [g3 (15 + 2 * l' + 1) (by omega) (by omega), g3 (15 + 2 * l') (by omega) (by omega)]
          exact hR l' (by omega) h2
      have u := C_un1 hk4 (rw' := rowP x y n hun thr hid p) (v := v) (x1 := nI p) (x3 := s) (fun l => rowP_ok c.1.1 hp l) (fun l' h1 h2 => hR' l' (by omega) h2) hb (l_C_unlikeWebs_5 m) k 0 FUEL true (by omega) (show k < 5000 by omega)
      rw [show (if true = true then (1 : Int32) else 0) = 1 from rfl, show nI 0 = (0 : Int32) from rfl] at u
      obtain ⟨h2, e2, s2⟩ := ih (k + 1) m (unS v (rowP x y n hun thr hid p) k s) h' (by omega) (by omega) (c.same g4) hR'
      refine ⟨h2, ?_, g4.tr s2⟩
      rw [if_neg (show ¬ (if true = true then (1 : Int32) else 0) = 0 by decide), chk_nI hk4 (by omega), ix_nI (by omega), c.2.1.2.2.1, g1, bnd_some, u, ← e2]
      unfold unS
      rw [hb]
theorem M_un1 {l : Nat} (hl : l < 4) {rw' : Nat → List Nat} {v x1 x3 : Int32} {h : Hp} (ho : ∀ l, RowOK (rw' l)) (hR : ∀ l', l' ≤ l → WebAt h l' (rw' l')) (K : Int32 → Int32 → Int32 → Int32 → Hp → Option (Int32 × Hp)) : ∀ (j k m : Nat) (b : Bool), k + j = l → j < m → l_M_unlikeFrom_87 K m x1 v x3 (nI l) (if b = true then 1 else 0) (nI k) h = K x1 v (if (b && allF (unB v rw' l) j k) = true then x3 + 1 else x3) (nI (l + 1)) h := by
  have a0 : x3 + 0 = x3 := by simp
  intro j
  induction j with
  | zero =>
    intro k m b hk hm
    obtain ⟨m, rfl⟩ : ∃ m', m = m' + 1 := ⟨m - 1, by omega⟩
    rw [l_M_unlikeFrom_87, if_pos (nI_le (by omega) (by omega)), nI_1, allF, Bool.and_true, a0]
    cases b <;> rfl
  | succ j ih =>
    intro k m b hk hm
    obtain ⟨m, rfl⟩ : ∃ m', m = m' + 1 := ⟨m - 1, by omega⟩
    rw [l_M_unlikeFrom_87, if_neg (nI_ge (by omega) (by omega)), nI_1, nI_1, a0, allF]
    cases b with
    | false => rfl
    | true =>
      rw [if_neg (show ¬ (if true = true then (1 : Int32) else 0) = 0 by decide), M_isIn v (by omega), bnd_some]
      cases hb : bt v k with
      | false =>
        rw [if_pos (show (if false = true then (1 : Int32) else 0) = 0 by decide), show unB v rw' l k = true by unfold unB; rw [hb]; rfl, Bool.true_and]
        exact ih (k + 1) m true (by omega) (by omega)
      | true =>
        rw [if_neg (show ¬ (if true = true then (1 : Int32) else 0) = 0 by decide), M_alike hl (by omega) (hR l (Nat.le_refl l)) (hR k (by omega)) (ho l) (ho k), bnd_some]
        cases hq : sameB (rw' l) (rw' k) with
        | false => rw [if_pos (show (if false = true then (1 : Int32) else 0) = 0 by decide), show unB v rw' l k = true by unfold unB; rw [hb, hq]; rfl, Bool.true_and]; exact ih (k + 1) m true (by omega) (by omega)
        | true =>
          rw [if_neg (show ¬ (if true = true then (1 : Int32) else 0) = 0 by decide), show unB v rw' l k = false by unfold unB; rw [hb, hq]; rfl, Bool.false_and, Bool.and_false]
          exact ih (k + 1) m false (by omega) (by omega)
theorem M_store {l : Nat} (hl : l < 4) {R : List Nat} (o : RowOK R) {v x1 x3 : Int32} (K : Int32 → Int32 → Int32 → Int32 → Hp → Option (Int32 × Hp)) : ∀ (j k m : Nat) (h : Hp), k + j = R.length → j < m → h 31 10 = nI R.length → RowAt (h 35) R → (∀ i, i ≤ k → h 40 (11 * l + i) = nI (cel R i)) → ∃ h', l_M_unlikeFrom_39 K m x1 v x3 (nI l) (nI k) h = l_M_unlikeFrom_87 K FUEL x1 v x3 (nI l) (if bt v l = true then 1 else 0) 0 h' ∧ (∀ b, b ≠ 40 → h' b = h b) ∧ WebAt h' l R ∧ ∀ i, i < 11 * l → h' 40 i = h 40 i := by
  have o1 := o.1
  intro j
  induction j with
  | zero =>
    intro k m h hk hm h1 h2 h3
    obtain ⟨m, rfl⟩ : ∃ m', m = m' + 1 := ⟨m - 1, by omega⟩
    refine ⟨h, ?_, fun _ _ => rfl, fun i hi => h3 i (by omega), fun _ _ => rfl⟩
    rw [l_M_unlikeFrom_39, h1, if_pos (nI_le (by omega) (by omega)), M_isIn v (by omega), bnd_some]
  | succ j ih =>
    intro k m h hk hm h1 h2 h3
    obtain ⟨m, rfl⟩ : ∃ m', m = m' + 1 := ⟨m - 1, by omega⟩
    rw [l_M_unlikeFrom_39, h1, if_neg (nI_ge (by omega) (by omega)), chk_nI (by omega) (by omega), e11 l hl, nI_1, nI_add, chk_nI (by omega) (by omega), ix_nI (by omega), ix_nI (by omega), nI_1, h2.at (by omega)]
    obtain ⟨h', g1, g2, g3, g4⟩ := ih (k + 1) m (hset h 40 (11 * l + 1 + k) (nI (R.getD k 0))) (by omega) (by omega) (by rw [hset_ne (by omega)]; exact h1) (by rw [show hset h 40 (11 * l + 1 + k) (nI (R.getD k 0)) 35 = h 35 from funext fun i => hset_ne (by omega)]; exact h2) (by
      intro i hi
      by_cases e : i = k + 1
      · subst e; rw [show 11 * l + (k + 1) = 11 * l + 1 + k by omega, hset_eq]; rfl
      · rw [hset_ne (by omega)]; exact h3 i (by omega))
    refine ⟨h', g1, fun b hb => ?_, g3, fun i hi => ?_⟩
    · rw [g2 b hb]; exact funext fun i => hset_ne (by omega)
    · rw [g4 i hi, hset_ne (by omega)]
theorem Same.w40 {h h' : Hp} (hm : ∀ b, b ≠ 40 → h' b = h b) : Same h h' := by
  intro b k hs
  refine congrFun (hm b ?_) k
  rintro rfl; cases hs
theorem M_unlike {p : Nat} (hp : p < n) (v : Int32) : ∀ (j k m : Nat) (s : Int32) (h : Hp), k + j = 4 → j < m → Ctx h n x y thr hun rea hid flt → MP h n x y → (∀ l', l' < k → WebAt h l' (rowP x y n hun thr hid p l')) → ∃ h', l_M_unlikeFrom_5 m (nI p) v s (nI k) h = some (itr (unS v (rowP x y n hun thr hid p)) j k s, h') ∧ Same h h' ∧ MP h' n x y := by
  intro j
  induction j with
  | zero =>
    intro k m s h hk hm c hM hR
    obtain ⟨m, rfl⟩ : ∃ m', m = m' + 1 := ⟨m - 1, by omega⟩
    exact ⟨h, by rw [l_M_unlikeFrom_5, if_pos (show (4 : Int32) ≤ nI k from nI_le (a := 4) (by omega) (by omega))]; rfl, Same.rf h, hM⟩
  | succ j ih =>
    intro k m s h hk hm c hM hR
    obtain ⟨m, rfl⟩ : ∃ m', m = m' + 1 := ⟨m - 1, by omega⟩
    have hk4 : k < 4 := by omega
    have ok := rowP_ok (x := x) (y := y) (hun := hun) (thr := thr) (hid := hid) c.1.1 hp k
    have ok1 := ok.1
    obtain ⟨h1, g1, g2, g3, g4, g5, g6⟩ := M_layS c hM hp hk4 hid
    have g20 : h1 31 10 = nI (rowP x y n hun thr hid p k).length := g2.1
    obtain ⟨h2, k1, k2, k3, k4⟩ := M_store hk4 ok (v := v) (x1 := nI p) (x3 := s) (l_M_unlikeFrom_5 m) (rowP x y n hun thr hid p k).length 0 FUEL (hset h1 40 (11 * k) (nI (rowP x y n hun thr hid p k).length)) (by omega) (show (rowP x y n hun thr hid p k).length < 5000 by omega) (by rw [hset_ne (by omega)]; exact g20) (by rw [show hset h1 40 (11 * k) (nI (rowP x y n hun thr hid p k).length) 35 = h1 35 from funext fun i => hset_ne (by omega)]; exact g2.2.1) (by
      intro i hi
      have : i = 0 := by omega
      subst this
      exact hset_eq _ _ _ _)
    have f2 : ∀ b, b ≠ 40 → h2 b = h1 b := fun b hb => by rw [k2 b hb]; exact funext fun i => hset_ne (by omega)
    have s2 := Same.w40 f2
    have M2 : MP h2 n x y := by unfold MP; rw [f2 31 (by omega), f2 33 (by omega), f2 34 (by omega)]; exact g5
    have W2 : ∀ l', l' < k + 1 → WebAt h2 l' (rowP x y n hun thr hid p l') := by
      intro l' hl'
      by_cases e : l' = k
      · subst e; exact k3
      · intro i hi
        have := (rowP_ok (x := x) (y := y) (hun := hun) (thr := thr) (hid := hid) c.1.1 hp l').1
        rw [k4 _ (by omega), hset_ne (by omega), g3.1 40 (by omega) (by omega)]
        exact hR l' (by omega) i hi
    have u := M_un1 hk4 (rw' := rowP x y n hun thr hid p) (v := v) (x1 := nI p) (x3 := s) (fun l => rowP_ok c.1.1 hp l) (fun l' h1 => W2 l' (by omega)) (l_M_unlikeFrom_5 m) k 0 FUEL (bt v k) (by omega) (show k < 5000 by omega)
    rw [show nI 0 = (0 : Int32) from rfl] at u k1
    obtain ⟨h3, e3, s3, M3⟩ := ih (k + 1) m (unS v (rowP x y n hun thr hid p) k s) h2 (by omega) (by omega) (g6.same s2) M2 W2
    refine ⟨h3, ?_, (g4.tr s2).tr s3, M3⟩
    rw [l_M_unlikeFrom_5, if_neg (show ¬ (4 : Int32) ≤ nI k from nI_ge (b := 4) hk4 (by omega)), c.2.2.1.1, g1, bnd_some, e11 k hk4, chk_nI (by omega) (by omega), ix_nI (by omega), g20, k1, u, itr, ← e3]
    rfl
def telU (x y : Nat → Nat) (n hun thr : Nat) (hid v : Int32) (p : Nat) : Int32 := itr (unS v (rowP x y n hun thr hid p)) 4 0 0
def telS (x y : Nat → Nat) (n hun thr : Nat) (hid v : Int32) (p : Nat) (s : Int32 × Int32) : Int32 × Int32 := if bt hid p = true then s else if telU x y n hun thr hid v p ≤ s.2 then s else (nI p, telU x y n hun thr hid v p)
def telM (x y : Nat → Nat) (n hun thr : Nat) (hid v : Int32) (p : Nat) (s : Int32 × Int32) : Int32 × Int32 := if bt hid p = true then (if (-1) ≤ s.2 then s else (nI p, -1)) else if telU x y n hun thr hid v p ≤ s.2 then s else (nI p, telU x y n hun thr hid v p)
theorem tel_eq (v : Int32) : ∀ (j k : Nat) (s : Int32 × Int32), (-1) ≤ s.2 → itr (telM x y n hun thr hid v) j k s = itr (telS x y n hun thr hid v) j k s
  | 0, _, _, _ => rfl
  | j + 1, k, s, hs => by
    have e : telM x y n hun thr hid v k s = telS x y n hun thr hid v k s := by unfold telM telS; rw [if_pos hs]
    rw [itr, itr, e]
    refine tel_eq v j (k + 1) _ ?_
    unfold telS
    split
    · exact hs
    · split
      · exact hs
      · next q => rw [le_iff] at *; show _ ≤ (telU x y n hun thr hid v k).toInt; omega
def telV (x y : Nat → Nat) (n hun thr : Nat) (hid v : Int32) : Int32 := (itr (telS x y n hun thr hid v) n 0 (-1, -1)).1
variable {ns : Nat} {F T Q : Nat → Nat}
theorem C_tellsV {h : Hp} (c : Ctx h n x y thr hun rea hid flt) (cn : NCtx h ns F T Q) : Ans f_C_tells (telV x y n hun thr hid (fitV x y n hun thr hid F T Q ns)) h := by
  have hn := c.1.1
  obtain ⟨h1, e1, s1⟩ := C_fitsV c cn
  unfold Ans f_C_tells telV
  rw [e1, bnd_some]
  generalize fitV x y n hun thr hid F T Q ns = v
  refine Exists.elim (itr_loop (F := fun m s i h => l_C_tells_12 m v s.1 s.2 i h) (I := fun g => Ctx g n x y thr hun rea hid flt) (n := n) (res := fun s : Int32 × Int32 => s.1) (st := telS x y n hun thr hid v) ?_ ?_ n 0 (-1, -1) FUEL h1 (Nat.zero_add n) (show n < 5000 by omega) (c.same s1)) (fun q w => ?_)
  · intro m s g hg
    show l_C_tells_12 (m + 1) _ _ _ _ _ = _
    rw [l_C_tells_12, hg.2.1.1, if_pos (nI_le (Nat.le_refl _) (by omega))]
  · intro m k s g hk hg
    show ∃ h', l_C_tells_12 (m + 1) _ _ _ _ _ = l_C_tells_12 m _ _ _ _ _ ∧ _
    rw [l_C_tells_12, hg.2.1.1, if_neg (nI_ge hk (by omega)), C_isHidden hg (by omega), bnd_some, nI_1]
    unfold telS
    cases hb : bt hid k with
    | true => exact ⟨g, rfl, Same.rf g, hg⟩
    | false =>
      obtain ⟨h2, e2, s2⟩ := C_unlike hk v 4 0 FUEL 0 g (by omega) (show 4 < 5000 by omega) hg (fun l' z => by omega)
      have e3 : f_C_unlikeWebs (nI k) v g = some (telU x y n hun thr hid v k, h2) := e2
      refine ⟨h2, ?_, s2, hg.same s2⟩
      rw [if_pos (show (if false = true then (1 : Int32) else 0) = 0 by decide), e3, bnd_some, if_neg (show ¬ false = true by decide)]
      split <;> rfl
  · obtain ⟨w1, w2, w3⟩ := w
    refine ⟨q, ?_, s1.tr w2⟩
    dsimp only at w1
    rw [show nI 0 = (0 : Int32) from rfl] at w1
    exact w1
theorem M_tellsV {h : Hp} (c : Ctx h n x y thr hun rea hid flt) (cn : NCtx h ns F T Q) : AnsM n x y f_M_tellsNow (telV x y n hun thr hid (fitV x y n hun thr hid F T Q ns)) h := by
  have hn := c.1.1
  obtain ⟨h1, e1, s1, M1⟩ := M_fitsV c cn
  unfold AnsM f_M_tellsNow telV
  rw [e1, bnd_some]
  generalize fitV x y n hun thr hid F T Q ns = v
  rw [← tel_eq v n 0 (-1, -1) (show (-1 : Int32) ≤ -1 by decide)]
  refine Exists.elim (itr_loop (F := fun m s i h => l_M_tellsNow_12 m v s.1 s.2 i h) (I := fun g => Ctx g n x y thr hun rea hid flt ∧ MP g n x y) (n := n) (res := fun s : Int32 × Int32 => s.1) (st := telM x y n hun thr hid v) ?_ ?_ n 0 (-1, -1) FUEL h1 (Nat.zero_add n) (show n < 5000 by omega) ⟨c.same s1, M1⟩) (fun q w => ?_)
  · intro m s g hg
    show l_M_tellsNow_12 (m + 1) _ _ _ _ _ = _
    rw [l_M_tellsNow_12, hg.2.1, if_pos (nI_le (Nat.le_refl _) (by omega))]
  · intro m k s g hk hg
    show ∃ h', l_M_tellsNow_12 (m + 1) _ _ _ _ _ = l_M_tellsNow_12 m _ _ _ _ _ ∧ _
    rw [l_M_tellsNow_12, hg.2.1, if_neg (nI_ge hk (by omega)), M_isHidden hg.1 (by omega), bnd_some, nI_1]
    unfold telM
    cases hb : bt hid k with
    | true =>
      refine ⟨g, ?_, Same.rf g, hg⟩
      rw [if_neg (show ¬ (if true = true then (1 : Int32) else 0) = 0 by decide), if_pos (show true = true from rfl)]
      split <;> rfl
    | false =>
      obtain ⟨h2, e2, s2, M2⟩ := M_unlike hk v 4 0 FUEL 0 g (by omega) (show 4 < 5000 by omega) hg.1 hg.2 (fun l' z => by omega)
      have e3 : f_M_unlikeFrom (nI k) v g = some (telU x y n hun thr hid v k, h2) := e2
      refine ⟨h2, ?_, s2, hg.1.same s2, M2⟩
      rw [if_pos (show (if false = true then (1 : Int32) else 0) = 0 by decide), e3, bnd_some, if_neg (show ¬ false = true by decide)]
      split <;> rfl
  · obtain ⟨w1, w2, w3⟩ := w
    refine ⟨q, ?_, s1.tr w2, w3.2⟩
    dsimp only at w1
    rw [show nI 0 = (0 : Int32) from rfl] at w1
    exact w1
end TE
theorem op_tells : OpOK Rel f_C_tells f_M_tells := by
  refine op_ofN (fun h n x y thr hun rea hid flt ns F T Q c cn => ⟨_, C_tellsV c cn, fun g cg cng => ?_⟩)
  obtain ⟨h1, e1, s1, -⟩ := M_tellsV cg cng
  refine ⟨h1, ?_, s1⟩
  unfold f_M_tells
  rw [e1, bnd_some]
