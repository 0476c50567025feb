/-! PURE: flies -/
def lotN (u : Int32) : Int32 := 1103515245 * u + 12345
def plc (u : Int32) : Int32 := ((Int32.toUInt32 u >>> (Int32.toUInt32 16 &&& Int32.toUInt32 31)).toInt32) - ((Int32.toUInt32 u >>> (Int32.toUInt32 16 &&& Int32.toUInt32 31)).toInt32) / 10 * 10
theorem plc_ex (u : Int32) : ∃ k, k < 10 ∧ plc u = nI k := by
  unfold plc
  have e := pk_ushr u 16 16 (by decide)
  generalize (Int32.toUInt32 u >>> (Int32.toUInt32 16 &&& Int32.toUInt32 31)).toInt32 = w at e
  have hb : u.toBitVec.toNat / 2 ^ 16 < 65536 := by
    have : u.toBitVec.toNat < 2 ^ 32 := u.toBitVec.isLt
    omega
  have ew : w = nI (u.toBitVec.toNat / 2 ^ 16) := by
    apply Int32.toBitVec_inj.mp
    apply BitVec.eq_of_toNat_eq
    rw [e, pk_tn (by omega)]
  rw [ew]
  refine ⟨u.toBitVec.toNat / 2 ^ 16 % 10, Nat.mod_lt _ (by omega), ?_⟩
  exact pk_rem (d := 10) (by omega) (by omega) (by omega)
def dst (x y : Nat → Nat) (r u v : Nat) : Nat := ((x r - u) + (u - x r)) + ((y r - v) + (v - y r))
def cgt (x y : Nat → Nat) (R : List Nat) (u v rea : Nat) : Nat → Bool
  | 0 => false
  | k + 1 => cgt x y R u v rea k || decide (dst x y (R.getD k 0) u v ≤ rea)
theorem cgt_mono {x y : Nat → Nat} {R : List Nat} {u v rea k : Nat} (hk : cgt x y R u v rea k = true) : ∀ {n : Nat}, k ≤ n → cgt x y R u v rea n = true
  | 0, h => by have : k = 0 := by omega
               subst this; exact hk
  | n + 1, h => by
    by_cases e : k = n + 1
    · subst e; exact hk
    · rw [cgt, cgt_mono hk (n := n) (by omega), Bool.true_or]
def flS (x y : Nat → Nat) (R : List Nat) (rea : Nat) (_ : Nat) (s : Int32 × Int32) : Int32 × Int32 := (lotN (lotN s.1), if cgt x y R (ix (plc (lotN s.1))) (ix (plc (lotN (lotN s.1)))) rea R.length = true then s.2 + 1 else s.2)
section FL
variable {h : Hp} {n : Nat} {x y : Nat → Nat} {thr hun rea : Nat} {hid flt : Int32}
theorem C_caught (c : Ctx h n x y thr hun rea hid flt) {R : List Nat} {u v : Nat} (hR : RowAt (h 16) R) (hl : h 15 1 = nI R.length) (hl10 : R.length ≤ 10) (hlt : ∀ k, k < R.length → R.getD k 0 < n) (hu : u < 10) (hv : v < 10) : f_C_isCaught 15 (nI u) (nI v) h = some (if cgt x y R u v rea R.length = true then 1 else 0, h) := by
  have hn := c.1.1
  have key : ∀ (j k m : Nat), k + j = R.length → j < m → cgt x y R u v rea k = false → l_C_isCaught_3 m 15 (nI u) (nI v) (nI k) h = some (if cgt x y R u v rea R.length = true then 1 else 0, h) := by
    intro j
    induction j with
    | zero =>
      intro k m hk hm hc
      obtain ⟨m, rfl⟩ : ∃ m', m = m' + 1 := ⟨m - 1, by omega⟩
      have : k = R.length := by omega
      subst this
      rw [l_C_isCaught_3, hl, if_pos (nI_le (Nat.le_refl _) (by omega)), hc]; rfl
    | succ j ih =>
      intro k m hk hm hc
      obtain ⟨m, rfl⟩ : ∃ m', m = m' + 1 := ⟨m - 1, by omega⟩
      have hr := hlt k (by omega)
      obtain ⟨p1, p2, p3, p4⟩ := c.2.1.2.1 _ hr
      have ea : f_Fr_apartFrom 3 (nI (R.getD k 0)) (nI u) (nI v) h = some (nI (dst x y (R.getD k 0) u v), h) := by
        unfold f_Fr_apartFrom
        rw [chk_nI (by omega) (by omega), chk_nI (by omega) (by omega), ix_nI (by omega), show h (3 + 1) _ = _ from p1, show h (3 + 2) _ = _ from p2, jabs_nI _ p3 _ hu, jabs_nI _ p4 _ hv, nI_add]
        rfl
      have hd : dst x y (R.getD k 0) u v ≤ 18 := by unfold dst; omega
      rw [l_C_isCaught_3, hl, if_neg (nI_ge (by omega) (by omega)), chk_nI (by omega) (by omega), ix_nI (by omega), show h (15 + 1) k = _ from hR.at (by omega), ea, bnd_some, c.2.1.2.2.2.2.2.1, nI_1]
      have hrea := c.1.2.2.2.2
      by_cases hq : dst x y (R.getD k 0) u v ≤ rea
      · have : cgt x y R u v rea (k + 1) = true := by rw [cgt, decide_eq_true hq, Bool.or_true]
        rw [if_neg (nI_nlt hq (by omega)), cgt_mono this (by omega)]; rfl
      · rw [if_pos (nI_lt (by omega) (by omega))]
        exact ih (k + 1) m (by omega) (by omega) (by rw [cgt, hc, decide_eq_false hq]; rfl)
  exact key R.length 0 FUEL (by omega) (by unfold FUEL; omega) rfl
theorem M_caught (c : Ctx h n x y thr hun rea hid flt) (hM : MP h n x y) {R : List Nat} {u v : Nat} (hR : RowAt (h 35) R) (hl : h 31 10 = nI R.length) (hl10 : R.length ≤ 10) (hlt : ∀ k, k < R.length → R.getD k 0 < n) (hu : u < 10) (hv : v < 10) (K : Int32 → Int32 → Int32 → Int32 → Hp → Option (Int32 × Hp)) (x4 x5 x6 x7 : Int32) : l_M_fliesOf_85 K FUEL x4 x5 x6 x7 (nI u) (nI v) 0 0 h = K x4 x5 (if cgt x y R u v rea R.length = true then x6 + 1 else x6) (x7 + 1) h := by
  have hn := c.1.1
  have hrea := c.1.2.2.2.2
  have key : ∀ (j k m : Nat), k + j = R.length → j < m → l_M_fliesOf_85 K m x4 x5 x6 x7 (nI u) (nI v) (if cgt x y R u v rea k = true then 1 else 0) (nI k) h = K x4 x5 (if cgt x y R u v rea R.length = true then x6 + 1 else x6) (x7 + 1) h := by
    intro j
    induction j with
    | zero =>
      intro k m hk hm
      obtain ⟨m, rfl⟩ : ∃ m', m = m' + 1 := ⟨m - 1, by omega⟩
      have : k = R.length := by omega
      subst this
      rw [l_M_fliesOf_85, hl, if_pos (nI_le (Nat.le_refl _) (by omega))]
      cases cgt x y R u v rea R.length with
      | true => rfl
      | false => rw [if_pos (show (if false = true then (1 : Int32) else 0) = 0 from rfl), show x6 + 0 = x6 from by simp]; rfl
    | succ j ih =>
      intro k m hk hm
      obtain ⟨m, rfl⟩ : ∃ m', m = m' + 1 := ⟨m - 1, by omega⟩
      have hi := ih (k + 1) m (by omega) (by omega)
      rw [cgt] at hi
      have hr := hlt k (by omega)
      obtain ⟨p1, p2, p3, p4⟩ := hM.2 _ hr
      rw [l_M_fliesOf_85, hl, if_neg (nI_ge (by omega) (by omega)), nI_1]
      cases hc : cgt x y R u v rea k with
      | true => rw [hc] at hi; exact hi
      | false =>
        rw [hc] at hi
        have hd : (u - x (R.getD k 0)) + (x (R.getD k 0) - u) + ((v - y (R.getD k 0)) + (y (R.getD k 0) - v)) = dst x y (R.getD k 0) u v := by unfold dst; omega
        have hd18 : dst x y (R.getD k 0) u v ≤ 18 := by unfold dst; omega
        rw [if_pos (show (if false = true then (1 : Int32) else 0) = 0 from rfl), chk_nI (by omega) (by omega), ix_nI (by omega), hR.at (by omega), chk_nI (by omega) (by omega), ix_nI (by omega), p1, M_apart hu p3, bnd_some, chk_nI (by omega) (by omega), hR.at (by omega), chk_nI (by omega) (by omega), ix_nI (by omega), p2, M_apart hv p4, bnd_some, nI_add, hd, c.2.2.1.2.2.2]
        by_cases hq : dst x y (R.getD k 0) u v ≤ rea
        · rw [if_neg (nI_nlt hq (by omega))]; rw [decide_eq_true hq] at hi; exact hi
        · rw [if_pos (nI_lt (by omega) (by omega))]; rw [decide_eq_false hq] at hi; exact hi
  exact key R.length 0 FUEL (by omega) (by unfold FUEL; omega)
def flyV (x y : Nat → Nat) (n hun thr rea : Nat) (hid : Int32) (p l : Nat) (seed : Int32) (N : Nat) : Int32 := if bt hid p = true then -3 else (itr (flS x y (rowP x y n hun thr hid p l) rea) N 0 (seed, 0)).2
theorem C_fliesP (c : Ctx h n x y thr hun rea hid flt) {p l N : Nat} (seed : Int32) (hp : p < n) (hl : l < 4) (hN : N < 100) : Ans (f_C_flies (nI p) (nI l) seed (nI N)) (flyV x y n hun thr rea hid p l seed N) h := by
  have hn := c.1.1
  unfold Ans f_C_flies
  rw [C_can c, inN_nI hp (by omega), inN_nI hl (by omega), bnd_some, if_neg (by decide), if_neg (nI_pos (by omega)), if_pos (show nI N ≤ 99 from nI_le (b := 99) (by omega) (by omega)), C_isHidden c (by omega), bnd_some]
  unfold flyV
  cases hb : bt hid p with
  | true => exact ⟨h, by rw [if_neg (by decide), if_pos rfl], Same.rf h⟩
  | false =>
    obtain ⟨h', g1, g2, g3, g4⟩ := C_layS c (Or.inl rfl) hp hl hid
    have hl10 := Nat.le_trans (webL_len (x := x) (y := y) (hun := hun) (thr := thr) (l := l) (wo := hid) hn hp) hn
    have c' := c.same g4
    rw [if_pos (by decide), chk40, c.2.1.2.2.1, g1, bnd_some, if_neg (show ¬ false = true by decide)]
    refine Exists.elim (itr_loop (F := fun m s i h => l_C_flies_66 m (nI N) 15 s.1 s.2 i h) (I := fun g => g = h') (n := N) (res := fun s : Int32 × Int32 => s.2) (st := flS x y (rowP x y n hun thr hid p l) rea) ?_ ?_ N 0 (seed, 0) FUEL h' (Nat.zero_add N) (show N < 5000 by omega) rfl) (fun q w => ?_)
    · intro m s g hg
      show l_C_flies_66 (m + 1) _ _ _ _ _ _ = _
      rw [l_C_flies_66, if_pos (nI_le (Nat.le_refl _) (by omega))]
    · intro m k s g hk hg
      subst hg
      show ∃ h', l_C_flies_66 (m + 1) _ _ _ _ _ _ = l_C_flies_66 m _ _ _ _ _ _ ∧ _
      obtain ⟨u, hu, eu⟩ := plc_ex (lotN s.1)
      obtain ⟨v, hv, ev⟩ := plc_ex (lotN (lotN s.1))
      refine ⟨g, ?_, Same.rf g, rfl⟩
      rw [l_C_flies_66, if_neg (nI_ge hk (by omega)), show f_C_nextLot s.1 g = some (lotN s.1, g) from rfl, bnd_some, show f_C_placeByLot (lotN s.1) g = some (plc (lotN s.1), g) from rfl, bnd_some, show f_C_nextLot (lotN s.1) g = some (lotN (lotN s.1), g) from rfl, bnd_some, show f_C_placeByLot (lotN (lotN s.1)) g = some (plc (lotN (lotN s.1)), g) from rfl, bnd_some]
      unfold flS
      rw [eu, ev, C_caught c' g2.2.1 g2.1 hl10 (fun k hk => rowP_lt hp hk) hu hv, bnd_some, ix_nI (by omega), ix_nI (by omega), nI_1]
      cases cgt x y (p :: webL x y n hun thr l p hid) u v rea (p :: webL x y n hun thr l p hid).length <;> rfl
    · obtain ⟨w1, w2, w3⟩ := w
      refine ⟨q, ?_, g4.tr w2⟩
      dsimp only at w1
      rw [show nI 0 = (0 : Int32) from rfl] at w1
      exact w1
theorem M_fliesOf (c : Ctx h n x y thr hun rea hid flt) (hM : MP h n x y) {p l N : Nat} (seed : Int32) (hp : p < n) (hl : l < 4) (hN : N < 100) : AnsM n x y (f_M_fliesOf (nI p) (nI l) seed (nI N)) (flyV x y n hun thr rea hid p l seed N) h := by
  have hn := c.1.1
  unfold AnsM f_M_fliesOf
  rw [M_isHidden c (by omega), bnd_some]
  unfold flyV
  cases hb : bt hid p with
  | true => exact ⟨h, by rw [if_neg (by decide), if_pos rfl], Same.rf h, hM⟩
  | false =>
    obtain ⟨h', g1, g2, g3, g4, g5, g6⟩ := M_layS c hM hp hl hid
    have hl10 := Nat.le_trans (webL_len (x := x) (y := y) (hun := hun) (thr := thr) (l := l) (wo := hid) hn hp) hn
    rw [if_pos (by decide), c.2.2.1.1, g1, bnd_some, if_neg (show ¬ false = true by decide)]
    refine Exists.elim (itr_loop (F := fun m s i h => l_M_fliesOf_30 m (nI N) s.1 s.2 i h) (I := fun g => g = h') (n := N) (res := fun s : Int32 × Int32 => s.2) (st := flS x y (rowP x y n hun thr hid p l) rea) ?_ ?_ N 0 (seed, 0) FUEL h' (Nat.zero_add N) (show N < 5000 by omega) rfl) (fun q w => ?_)
    · intro m s g hg
      show l_M_fliesOf_30 (m + 1) _ _ _ _ _ = _
      rw [l_M_fliesOf_30, if_pos (nI_le (Nat.le_refl _) (by omega))]
    · intro m k s g hk hg
      subst hg
      obtain ⟨u, hu, eu⟩ := plc_ex (lotN s.1)
      obtain ⟨v, hv, ev⟩ := plc_ex (lotN (lotN s.1))
      refine ⟨g, ?_, Same.rf g, rfl⟩
      show l_M_fliesOf_30 (m + 1) _ _ _ _ _ = l_M_fliesOf_30 m _ _ _ _ _
      rw [l_M_fliesOf_30, if_neg (nI_ge hk (by omega))]
      show l_M_fliesOf_85 (l_M_fliesOf_30 m) FUEL (nI N) (lotN (lotN s.1)) s.2 (nI k) (plc (lotN s.1)) (plc (lotN (lotN s.1))) 0 0 g = _
      unfold flS
      rw [eu, ev, M_caught g6 g5 g2.2.1 g2.1 hl10 (fun k hk => rowP_lt hp hk) hu hv, ix_nI (by omega), ix_nI (by omega), nI_1]
    · obtain ⟨w1, w2, w3⟩ := w
      refine ⟨q, ?_, g4.tr w2, by rw [w3]; exact g5⟩
      dsimp only at w1
      rw [show nI 0 = (0 : Int32) from rfl] at w1
      exact w1
end FL
theorem le99 (u : Int32) : (¬ u < 0 ∧ u ≤ 99) ↔ inN u 100 = true := by
  have e0 : (0 : Int32).toInt = 0 := by decide
  have e2 : (99 : Int32).toInt = 99 := by decide
  simp only [lt_iff, le_iff, e0, e2, inN, decide_eq_true_eq]; omega
theorem op_flies (x1 x2 x3 x4 : Int32) : OpOK Rel (f_C_flies x1 x2 x3 x4) (f_M_flies x1 x2 x3 x4) := by
  refine op_of (fun h n x y thr hun rea hid flt c => ?_)
  have hn := c.1.1
  by_cases hb : (inN x1 n && inN x2 4) = true
  · obtain ⟨b1, b2⟩ := Bool.and_eq_true_iff.mp hb
    obtain ⟨p, hp, rfl⟩ := inN_ex b1 (by omega)
    obtain ⟨l, hl, rfl⟩ := inN_ex b2 (by omega)
    by_cases h3 : inN x4 100 = true
    · obtain ⟨N, hN, rfl⟩ := inN_ex h3 (by omega)
      refine ⟨_, C_fliesP c x3 hp hl hN, fun g cg => ?_⟩
      obtain ⟨h1, g1, g2, g3, g4⟩ := M_isWeb cg (nI p) (nI l)
      obtain ⟨h2, k1, k2, k3⟩ := M_fliesOf g4 g3 x3 hp hl hN
      refine ⟨h2, ?_, g2.tr k2⟩
      unfold f_M_flies
      rw [g1, hb, bnd_some, if_neg (by decide), show f_M_in (nI N) 0 99 h1 = _ from in_lit (nI N) (n := 99) (by omega) h1, h3, bnd_some, if_neg (by decide), k1, bnd_some]
    · refine ⟨-2, ⟨h, ?_, Same.rf h⟩, fun g cg => ?_⟩
      · unfold f_C_flies
        rw [C_can c, hb, bnd_some, if_neg (by decide)]
        by_cases q : x4 < 0
        · rw [if_pos q]
        · rw [if_neg q, if_neg (show ¬ x4 ≤ 99 from fun z => h3 ((le99 x4).mp ⟨q, z⟩))]
      · obtain ⟨h1, g1, g2, g3, g4⟩ := M_isWeb cg (nI p) (nI l)
        refine ⟨h1, ?_, g2⟩
        unfold f_M_flies
        rw [g1, hb, bnd_some, if_neg (by decide), show f_M_in x4 0 99 h1 = _ from in_lit x4 (n := 99) (by omega) h1, bnd_some, if_neg h3, if_pos rfl]
  · refine ⟨-2, ⟨h, ?_, Same.rf h⟩, fun g cg => ?_⟩
    · unfold f_C_flies
      rw [C_can c, bnd_some, if_neg hb, if_pos rfl]
    · obtain ⟨h1, g1, g2, g3, g4⟩ := M_isWeb cg x1 x2
      refine ⟨h1, ?_, g2⟩
      unfold f_M_flies
      rw [g1, bnd_some, if_neg hb, if_pos rfl]
