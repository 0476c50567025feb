/-! PURE: length, hangs, pieces, begin, fault, peg, far -/
def itr {σ : Type} (st : Nat → σ → σ) : Nat → Nat → σ → σ
  | 0, _, s => s
  | j + 1, k, s => itr st j (k + 1) (st k s)
/-- a loop over numbers whose cells are scratch -/
theorem itr_loop {σ ρ : Type} {F : Nat → σ → Int32 → Hp → Option (ρ × Hp)} {I : Hp → Prop} {n : Nat} {res : σ → ρ} {st : Nat → σ → σ}
    (hend : ∀ m s h, I h → F (m + 1) s (nI n) h = some (res s, h))
    (hstep : ∀ m k s h, k < n → I h → ∃ h', F (m + 1) s (nI k) h = F m (st k s) (nI (k + 1)) h' ∧ Same h h' ∧ I h') :
    ∀ j k s m h, k + j = n → j < m → I h → ∃ h', F m s (nI k) h = some (res (itr st j k s), h') ∧ Same h h' ∧ I h' := by
  intro j
  induction j with
  | zero =>
    intro k s m h hk hm hi
    obtain ⟨m, rfl⟩ : ∃ m', m = m' + 1 := ⟨m - 1, by omega⟩
    have : k = n := by omega
    subst this
    exact ⟨h, hend m s h hi, Same.rf h, hi⟩
  | succ j ih =>
    intro k s m h hk hm hi
    obtain ⟨m, rfl⟩ : ∃ m', m = m' + 1 := ⟨m - 1, by omega⟩
    obtain ⟨h1, e1, s1, i1⟩ := hstep m k s h (by omega) hi
    obtain ⟨h2, e2, s2, i2⟩ := ih (k + 1) (st k s) m h1 (by omega) (by omega) i1
    exact ⟨h2, by rw [e1, e2]; rfl, s1.tr s2, i2⟩
def fnd (R : List Nat) (u : Int32) : Nat → Nat → Int32
  | 0, _ => -1
  | j + 1, k => if nI (R.getD k 0) = u then nI k else fnd R u j (k + 1)
theorem RowAt.at {X : Nat → Int32} {R : List Nat} (h : RowAt X R) {k : Nat} (hk : k < R.length) : X k = nI (R.getD k 0) := by
  rw [h k R[k] (List.getElem?_eq_getElem hk)]
  simp [List.getD, hk]
theorem Sp_placeOf {a : Nat} {R : List Nat} {h : Hp} (hR : RowAt (h (a + 1)) R) (hs : h a 1 = nI R.length) (hl : R.length ≤ 10) (u : Int32) : f_Sp_placeOf a u h = some (fnd R u R.length 0, h) := by
  have key : ∀ (j k m : Nat), k + j = R.length → j < m → l_Sp_placeOf_2 m a u (nI k) h = some (fnd R u j k, h) := by
    intro j
    induction j with
    | zero =>
      intro k m hk hm
      obtain ⟨m, rfl⟩ : ∃ m', m = m' + 1 := ⟨m - 1, by omega⟩
      rw [l_Sp_placeOf_2, hs, if_pos (nI_le (by omega) (by omega))]; rfl
    | succ j ih =>
      intro k m hk hm
      obtain ⟨m, rfl⟩ : ∃ m', m = m' + 1 := ⟨m - 1, by omega⟩
      rw [l_Sp_placeOf_2, hs, if_neg (nI_ge (by omega) (by omega)), chk_nI (by omega) (by omega), ix_nI (by omega), hR.at (by omega), nI_1, fnd, ih (k + 1) m (by omega) (by omega)]
      split <;> rfl
  exact key R.length 0 FUEL (by omega) (by unfold FUEL; omega)
theorem M_indexOf {R : List Nat} {h : Hp} (hR : RowAt (h 35) R) (hs : h 31 10 = nI R.length) (hl : R.length ≤ 10) (u : Int32) : f_M_indexOf u h = some (fnd R u R.length 0, h) := by
  have key : ∀ (j k m : Nat), k + j = R.length → j < m → l_M_indexOf_2 m u (nI k) h = some (fnd R u j k, h) := by
    intro j
    induction j with
    | zero =>
      intro k m hk hm
      obtain ⟨m, rfl⟩ : ∃ m', m = m' + 1 := ⟨m - 1, by omega⟩
      rw [l_M_indexOf_2, hs, if_pos (nI_le (by omega) (by omega))]; rfl
    | succ j ih =>
      intro k m hk hm
      obtain ⟨m, rfl⟩ : ∃ m', m = m' + 1 := ⟨m - 1, by omega⟩
      rw [l_M_indexOf_2, hs, if_neg (nI_ge (by omega) (by omega)), chk_nI (by omega) (by omega), ix_nI (by omega), hR.at (by omega), nI_1, fnd, ih (k + 1) m (by omega) (by omega)]
      split <;> rfl
  exact key R.length 0 FUEL (by omega) (by unfold FUEL; omega)
def nbV (R : List Nat) (u : Int32) : Int32 := if fnd R u R.length 0 = -1 then 0 else if fnd R u R.length 0 ≤ 0 then (if nI R.length ≤ fnd R u R.length 0 + 1 then 0 else 1) else (if nI R.length ≤ fnd R u R.length 0 + 1 then 1 else 2)
theorem nbV_ne (R : List Nat) (u : Int32) : ¬ nbV R u = -3 := by
  unfold nbV
  split
  · decide
  · split <;> split <;> decide
theorem C_neighbours {a : Nat} {R : List Nat} {h : Hp} (hR : RowAt (h (a + 1)) R) (hs : h a 1 = nI R.length) (hl : R.length ≤ 10) (u : Int32) : f_C_neighbours a u h = some (nbV R u, h) := by
  unfold f_C_neighbours nbV
  rw [Sp_placeOf hR hs hl u, bnd_some, hs]
  split
  · rfl
  · split <;> split <;> rfl
section OPS
variable {h : Hp} {n : Nat} {x y : Nat → Nat} {thr hun rea : Nat} {hid flt : Int32}
abbrev rowP (x y : Nat → Nat) (n hun thr : Nat) (hid : Int32) (p l : Nat) : List Nat := p :: webL x y n hun thr l p hid
def lenV (x y : Nat → Nat) (n hun thr : Nat) (hid : Int32) (p l : Nat) (w : Int32) : Int32 := if bt hid p = true then -3 else if w = 0 then nI (wayL x y p (webL x y n hun thr l p hid)) else if w = 1 then nI (rowP x y n hun thr hid p l).length else nI (thr - (wayL x y p (webL x y n hun thr l p hid) + hun * (webL x y n hun thr l p hid).length))
def hangV (x y : Nat → Nat) (n hun thr : Nat) (hid : Int32) (p l : Nat) (u : Int32) : Int32 := if bt hid p = true then -3 else nbV (rowP x y n hun thr hid p l) u
def pieV (x y : Nat → Nat) (n hun thr : Nat) (hid : Int32) (p l : Nat) (u : Int32) : Int32 := if bt hid p = true then -3 else if fnd (rowP x y n hun thr hid p l) u (rowP x y n hun thr hid p l).length 0 = -1 then 1 else nbV (rowP x y n hun thr hid p l) u
theorem chk40 {α : Type} (o : Option α) : chk 4 0 o = o := rfl
theorem C_lengthP (c : Ctx h n x y thr hun rea hid flt) {p l : Nat} {w : Int32} (hp : p < n) (hl : l < 4) (hw : ¬ w < 0 ∧ w ≤ 2) : Ans (f_C_length (nI p) (nI l) w) (lenV x y n hun thr hid p l w) h := by
  have hn := c.1.1
  unfold Ans f_C_length
  rw [C_can c, inN_nI hp (by omega), inN_nI hl (by omega), bnd_some, if_neg (by decide), if_neg hw.1, if_pos hw.2, C_isHidden c (by omega), bnd_some]
  unfold lenV
  cases hb : bt hid p with
  | true => exact ⟨h, rfl, Same.rf h⟩
  | false =>
    obtain ⟨h', g1, g2, g3, g4⟩ := C_layS c (Or.inl rfl) hp hl hid
    rw [if_pos (by decide), chk40, c.2.1.2.2.1, g1, bnd_some, g2.1, g2.2.2.1, g2.2.2.2]
    refine ⟨h', ?_, g4⟩
    split
    · rfl
    · split <;> rfl
theorem M_lengthOf (c : Ctx h n x y thr hun rea hid flt) (hM : MP h n x y) {p l : Nat} (w : Int32) (hp : p < n) (hl : l < 4) : AnsM n x y (f_M_lengthOf (nI p) (nI l) w) (lenV x y n hun thr hid p l w) h := by
  have hn := c.1.1
  unfold AnsM f_M_lengthOf
  rw [M_isHidden c (by omega), bnd_some]
  unfold lenV
  cases hb : bt hid p with
  | true => exact ⟨h, rfl, Same.rf h, hM⟩
  | false =>
    obtain ⟨h', g1, g2, g3, g4, g5, g6⟩ := M_layS c hM hp hl hid
    rw [if_pos (by decide), c.2.2.1.1, g1, bnd_some, g2.1, g2.2.2.1, g2.2.2.2]
    refine ⟨h', ?_, g4, g5⟩
    split
    · rfl
    · split <;> rfl
theorem C_hangsP (c : Ctx h n x y thr hun rea hid flt) {p l : Nat} {u : Int32} (hp : p < n) (hl : l < 4) (hu : inN u n = true) : Ans (f_C_hangs (nI p) (nI l) u) (hangV x y n hun thr hid p l u) h := by
  have hn := c.1.1
  unfold Ans f_C_hangs
  rw [C_can c, inN_nI hp (by omega), inN_nI hl (by omega), bnd_some, if_neg (by decide), Fr_has u c.2.1.1 hn, hu, bnd_some, if_neg (by decide), C_isHidden c (by omega), bnd_some]
  unfold hangV
  cases hb : bt hid p with
  | true => exact ⟨h, by rw [if_neg (show ¬ (if true = true then (1 : Int32) else 0) = 0 by decide), if_pos (show true = true from rfl)], Same.rf h⟩
  | false =>
    obtain ⟨h', g1, g2, g3, g4⟩ := C_layS c (Or.inl rfl) hp hl hid
    rw [if_pos (by decide), chk40, c.2.1.2.2.1, g1, bnd_some, C_neighbours g2.2.1 g2.1 (Nat.le_trans (webL_len hn hp) hn), bnd_some]
    exact ⟨h', by rw [if_neg (show ¬ false = true by decide)], g4⟩
theorem C_piecesP (c : Ctx h n x y thr hun rea hid flt) {p l : Nat} {u : Int32} (hp : p < n) (hl : l < 4) (hu : inN u n = true) : Ans (f_C_pieces (nI p) (nI l) u) (pieV x y n hun thr hid p l u) h := by
  have hn := c.1.1
  unfold Ans f_C_pieces
  rw [C_can c, inN_nI hp (by omega), inN_nI hl (by omega), bnd_some, if_neg (by decide), Fr_has u c.2.1.1 hn, hu, bnd_some, if_neg (by decide), C_isHidden c (by omega), bnd_some]
  unfold pieV
  cases hb : bt hid p with
  | true => exact ⟨h, rfl, Same.rf h⟩
  | false =>
    obtain ⟨h', g1, g2, g3, g4⟩ := C_layS c (Or.inl rfl) hp hl hid
    have hl10 := Nat.le_trans (webL_len (x := x) (y := y) (hun := hun) (thr := thr) (l := l) (wo := hid) hn hp) hn
    rw [if_pos (by decide), chk40, c.2.1.2.2.1, g1, bnd_some, Sp_placeOf g2.2.1 g2.1 hl10, bnd_some, C_neighbours g2.2.1 g2.1 hl10, bnd_some]
    refine ⟨h', ?_, g4⟩
    rw [if_neg (show ¬ false = true by decide)]
    split <;> rfl
theorem M_hangsOf (c : Ctx h n x y thr hun rea hid flt) (hM : MP h n x y) {p l : Nat} (u : Int32) (hp : p < n) (hl : l < 4) : ∃ h', f_M_hangsOf (nI p) (nI l) u h = some (hangV x y n hun thr hid p l u, h') ∧ Same h h' ∧ MP h' n x y ∧ (bt hid p = false → RowAt (h' 35) (rowP x y n hun thr hid p l) ∧ h' 31 10 = nI (rowP x y n hun thr hid p l).length) := by
  have hn := c.1.1
  unfold f_M_hangsOf
  rw [M_isHidden c (by omega), bnd_some]
  unfold hangV
  cases hb : bt hid p with
  | true => exact ⟨h, rfl, Same.rf h, hM, fun q => by cases q⟩
  | false =>
    obtain ⟨h', g1, g2, g3, g4, g5, g6⟩ := M_layS c hM hp hl hid
    rw [if_pos (by decide), c.2.2.1.1, g1, bnd_some, M_indexOf g2.2.1 g2.1 (Nat.le_trans (webL_len hn hp) hn), bnd_some, g2.1]
    refine ⟨h', ?_, g4, g5, fun _ => ⟨g2.2.1, g2.1⟩⟩
    unfold nbV
    rw [if_neg (show ¬ false = true by decide)]
    split
    · rfl
    · split <;> split <;> rfl
theorem M_piecesOf (c : Ctx h n x y thr hun rea hid flt) (hM : MP h n x y) {p l : Nat} (u : Int32) (hp : p < n) (hl : l < 4) : AnsM n x y (f_M_piecesOf (nI p) (nI l) u) (pieV x y n hun thr hid p l u) h := by
  have hn := c.1.1
  obtain ⟨h', g1, g2, g3, g4⟩ := M_hangsOf c hM u hp hl
  unfold AnsM f_M_piecesOf
  rw [g1, bnd_some]
  unfold hangV pieV
  cases hb : bt hid p with
  | true => exact ⟨h', by rw [if_pos (show true = true from rfl), if_pos (show (-3 : Int32) = -3 from rfl), if_pos (show true = true from rfl)], g2, g3⟩
  | false =>
    obtain ⟨q1, q2⟩ := g4 hb
    rw [if_neg (show ¬ false = true by decide), if_neg (nbV_ne _ _), M_indexOf q1 q2 (Nat.le_trans (webL_len hn hp) hn), bnd_some]
    refine ⟨h', ?_, g2, g3⟩
    rw [if_neg (show ¬ false = true by decide)]
    split <;> rfl
end OPS
theorem inN_le (u : Int32) : (¬ u < 0 ∧ u ≤ 2) ↔ inN u 3 = true := by
  have e0 : (0 : Int32).toInt = 0 := by decide
  have e2 : (2 : Int32).toInt = 2 := by decide
  simp only [lt_iff, le_iff, e0, e2, inN, decide_eq_true_eq]; omega
theorem op_length (x1 x2 x3 : Int32) : OpOK Rel (f_C_length x1 x2 x3) (f_M_length x1 x2 x3) := by
  refine op_of (fun h n x y thr hun rea hid flt c => ?_)
  have hn := c.1.1
  by_cases hb : (inN x1 n && inN x2 4) = true
  · obtain ⟨b1, b2⟩ := Bool.and_eq_true_iff.mp hb
    obtain ⟨p, hp, rfl⟩ := inN_ex b1 (by omega)
    obtain ⟨l, hl, rfl⟩ := inN_ex b2 (by omega)
    by_cases h3 : inN x3 3 = true
    · refine ⟨_, C_lengthP c hp hl ((inN_le x3).mpr h3), fun g cg => ?_⟩
      obtain ⟨h1, g1, g2, g3, g4⟩ := M_isWeb cg (nI p) (nI l)
      obtain ⟨h2, k1, k2, k3⟩ := M_lengthOf g4 g3 x3 hp hl
      refine ⟨h2, ?_, g2.tr k2⟩
      unfold f_M_length
      rw [g1, hb, bnd_some, if_neg (by decide), show f_M_in x3 0 2 h1 = _ from in_lit x3 (n := 2) (by omega) h1, h3, bnd_some, if_neg (by decide), k1, bnd_some]
    · refine ⟨-2, ⟨h, ?_, Same.rf h⟩, fun g cg => ?_⟩
      · unfold f_C_length
        rw [C_can c, hb, bnd_some, if_neg (by decide)]
        by_cases q : x3 < 0
        · rw [if_pos q]
        · rw [if_neg q, if_neg (show ¬ x3 ≤ 2 from fun z => h3 ((inN_le x3).mp ⟨q, z⟩))]
      · obtain ⟨h1, g1, g2, g3, g4⟩ := M_isWeb cg (nI p) (nI l)
        refine ⟨h1, ?_, g2⟩
        unfold f_M_length
        rw [g1, hb, bnd_some, if_neg (by decide), show f_M_in x3 0 2 h1 = _ from in_lit x3 (n := 2) (by omega) h1, bnd_some, if_neg h3, if_pos rfl]
  · refine ⟨-2, ⟨h, ?_, Same.rf h⟩, fun g cg => ?_⟩
    · unfold f_C_length
      rw [C_can c, bnd_some, if_neg hb, if_pos rfl]
    · obtain ⟨h1, g1, g2, g3, g4⟩ := M_isWeb cg x1 x2
      refine ⟨h1, ?_, g2⟩
      unfold f_M_length
      rw [g1, bnd_some, if_neg hb, if_pos rfl]
theorem op_hangs (x1 x2 x3 : Int32) : OpOK Rel (f_C_hangs x1 x2 x3) (f_M_hangs x1 x2 x3) := by
  refine op_of (fun h n x y thr hun rea hid flt c => ?_)
  have hn := c.1.1
  by_cases hb : (inN x1 n && inN x2 4) = true
  · obtain ⟨b1, b2⟩ := Bool.and_eq_true_iff.mp hb
    obtain ⟨p, hp, rfl⟩ := inN_ex b1 (by omega)
    obtain ⟨l, hl, rfl⟩ := inN_ex b2 (by omega)
    by_cases h3 : inN x3 n = true
    · refine ⟨_, C_hangsP c hp hl h3, fun g cg => ?_⟩
      obtain ⟨h1, g1, g2, g3, g4⟩ := M_isWeb cg (nI p) (nI l)
      obtain ⟨h1b, r1, r2, r3, r4⟩ := g4.isPeg x3
      obtain ⟨h2, k1, k2, k3, -⟩ := M_hangsOf r4 r3 x3 hp hl
      refine ⟨h2, ?_, (g2.tr r2).tr k2⟩
      unfold f_M_hangs
      rw [g1, hb, bnd_some, if_neg (by decide), r1, h3, bnd_some, if_neg (by decide), k1, bnd_some]
    · refine ⟨-2, ⟨h, ?_, Same.rf h⟩, fun g cg => ?_⟩
      · unfold f_C_hangs
        rw [C_can c, hb, bnd_some, if_neg (by decide)]
        rw [Fr_has x3 c.2.1.1 hn, bnd_some, if_neg h3, if_pos rfl]
      · obtain ⟨h1, g1, g2, g3, g4⟩ := M_isWeb cg (nI p) (nI l)
        obtain ⟨h1b, r1, r2, r3, r4⟩ := g4.isPeg x3
        refine ⟨h1b, ?_, g2.tr r2⟩
        unfold f_M_hangs
        rw [g1, hb, bnd_some, if_neg (by decide), r1, bnd_some, if_neg h3, if_pos rfl]
  · refine ⟨-2, ⟨h, ?_, Same.rf h⟩, fun g cg => ?_⟩
    · unfold f_C_hangs
      rw [C_can c, bnd_some, if_neg hb, if_pos rfl]
    · obtain ⟨h1, g1, g2, g3, g4⟩ := M_isWeb cg x1 x2
      refine ⟨h1, ?_, g2⟩
      unfold f_M_hangs
      rw [g1, bnd_some, if_neg hb, if_pos rfl]
theorem op_pieces (x1 x2 x3 : Int32) : OpOK Rel (f_C_pieces x1 x2 x3) (f_M_pieces x1 x2 x3) := by
  refine op_of (fun h n x y thr hun rea hid flt c => ?_)
  have hn := c.1.1
  by_cases hb : (inN x1 n && inN x2 4) = true
  · obtain ⟨b1, b2⟩ := Bool.and_eq_true_iff.mp hb
    obtain ⟨p, hp, rfl⟩ := inN_ex b1 (by omega)
    obtain ⟨l, hl, rfl⟩ := inN_ex b2 (by omega)
    by_cases h3 : inN x3 n = true
    · refine ⟨_, C_piecesP c hp hl h3, fun g cg => ?_⟩
      obtain ⟨h1, g1, g2, g3, g4⟩ := M_isWeb cg (nI p) (nI l)
      obtain ⟨h1b, r1, r2, r3, r4⟩ := g4.isPeg x3
      obtain ⟨h2, k1, k2, k3⟩ := M_piecesOf r4 r3 x3 hp hl
      refine ⟨h2, ?_, (g2.tr r2).tr k2⟩
      unfold f_M_pieces
      rw [g1, hb, bnd_some, if_neg (by decide), r1, h3, bnd_some, if_neg (by decide), k1, bnd_some]
    · refine ⟨-2, ⟨h, ?_, Same.rf h⟩, fun g cg => ?_⟩
      · unfold f_C_pieces
        rw [C_can c, hb, bnd_some, if_neg (by decide)]
        rw [Fr_has x3 c.2.1.1 hn, bnd_some, if_neg h3, if_pos rfl]
      · obtain ⟨h1, g1, g2, g3, g4⟩ := M_isWeb cg (nI p) (nI l)
        obtain ⟨h1b, r1, r2, r3, r4⟩ := g4.isPeg x3
        refine ⟨h1b, ?_, g2.tr r2⟩
        unfold f_M_pieces
        rw [g1, hb, bnd_some, if_neg (by decide), r1, bnd_some, if_neg h3, if_pos rfl]
  · refine ⟨-2, ⟨h, ?_, Same.rf h⟩, fun g cg => ?_⟩
    · unfold f_C_pieces
      rw [C_can c, bnd_some, if_neg hb, if_pos rfl]
    · obtain ⟨h1, g1, g2, g3, g4⟩ := M_isWeb cg x1 x2
      refine ⟨h1, ?_, g2⟩
      unfold f_M_pieces
      rw [g1, bnd_some, if_neg hb, if_pos rfl]
