/-! PURE: last -/
theorem and_all2 {n : Nat} (f : Int32) (hn : n ≤ 10) : ∃ v, v < 2 ^ n ∧ (((1 : Int32) <<< (nI n &&& 31)) - 1) &&& f = nI v := by
  have e := pk_and f (m := ((1 : Int32) <<< (nI n &&& 31)) - 1) n (all_n n (by omega))
  refine ⟨f.toBitVec.toNat % 2 ^ n, Nat.mod_lt _ (Nat.two_pow_pos n), ?_⟩
  rw [← e]
  apply Int32.toBitVec_inj.mp
  rw [Int32.toBitVec_and, Int32.toBitVec_and, BitVec.and_comm]
theorem p2_le {n : Nat} (hn : n ≤ 10) : 2 ^ n ≤ 1024 := Nat.pow_le_pow_right (n := 2) (by omega) hn
theorem sub_le {s a : Nat} (hs : s < 1024) (ha : a < 1024) (h : nI s &&& (nI a ^^^ (-1)) = 0) : s ≤ a := by
  have hb : ∀ p, p < 32 → (bt (nI s) p && !bt (nI a) p) = false := by
    intro p hp
    have := congrArg (fun z => bt z p) h
    rw [bt_and, bt_not _ hp] at this
    rw [this]; simp [bt]
  have e : (nI s).toBitVec &&& (nI a).toBitVec = (nI s).toBitVec := by
    apply BitVec.eq_of_getLsbD_eq
    intro p hp
    rw [BitVec.getLsbD_and]
    have := hb p hp
    unfold bt at this
    cases h1 : (nI s).toBitVec.getLsbD p with
    | false => rfl
    | true =>
      rw [h1] at this
      cases h2 : (nI a).toBitVec.getLsbD p with
      | true => rfl
      | false => rw [h2] at this; cases this
  have e2 := congrArg BitVec.toNat e
  rw [BitVec.toNat_and, pk_tn (by omega), pk_tn (by omega)] at e2
  rw [← e2]; exact Nat.and_le_right
theorem sh_n : ∀ n, n < 12 → (1 : Int32) <<< (nI n &&& 31) = nI (2 ^ n) := by decide
theorem M_ones {v : Nat} (hv : v < 1024) (h : Hp) : f_M_ones (nI v) h = some (bcE (nI v), h) := by
  have key : ∀ (j k m : Nat), k + j = 10 → j < m → l_M_ones_4 m (nI v) (sbits (bt (nI v)) k) (nI k) h = some (sbits (bt (nI v)) 10, h) := by
    intro j
    induction j with
    | zero =>
      intro k m hk hm
      obtain ⟨m, rfl⟩ : ∃ m', m = m' + 1 := ⟨m - 1, by omega⟩
      have : k = 10 := by omega
      subst this
      rw [l_M_ones_4, if_pos (show (10 : Int32) ≤ nI 10 by decide)]
    | succ j ih =>
      intro k m hk hm
      obtain ⟨m, rfl⟩ : ∃ m', m = m' + 1 := ⟨m - 1, by omega⟩
      rw [l_M_ones_4, if_neg (nle10 (by omega)), bt_shr _ (by omega), nI_1]
      exact ih (k + 1) m (by omega) (by omega)
  rw [bc_v hv]
  exact key 10 0 FUEL (by omega) (show 10 < 5000 by omega)
theorem bc_le : ((List.range 1024).all fun v => decide (bcE (nI v) < 11)) = true := by decide +kernel
theorem bc_11 {v : Nat} (hv : v < 1024) : bcE (nI v) < 11 := by
  have := List.all_eq_true.mp bc_le v (List.mem_range.mpr hv)
  simpa using this
def better (s : Nat) : Option Nat → Bool
  | none => true
  | some t => decide (bcE (nI s) < bcE (nI t))
def rowL (x y : Nat → Nat) (n hun thr : Nat) (hid : Int32) (p l s : Nat) : List Nat := rowP x y n hun thr (hid ||| nI s) p l
def ends (R : List Nat) (q : Nat) : Bool := decide (R.getD (R.length - 1) 0 = q)
def lasS (x y : Nat → Nat) (n hun thr : Nat) (hid : Int32) (p l q a : Nat) (s : Nat) (b : Option Nat) : Option Nat := if nI s &&& (nI a ^^^ (-1)) = 0 then (if better s b = true then (if ends (rowL x y n hun thr hid p l s) q = true then some s else b) else b) else b
theorem las_some {x y : Nat → Nat} {n hun thr : Nat} {hid : Int32} {p l q a s : Nat} {b : Option Nat} (hs : s < 1024) (hb : ∀ t, b = some t → t < 1024) : ∀ t, lasS x y n hun thr hid p l q a s b = some t → t < 1024 := by
  intro t
  unfold lasS
  split
  · split
    · split
      · intro e; cases e; exact hs
      · exact hb t
    · exact hb t
  · exact hb t
def xsB : Option Nat → Int32
  | none => 11
  | some t => bcE (nI t)
theorem better_x {s : Nat} (hs : s < 1024) (b : Option Nat) : bcE (nI s) < xsB b ↔ better s b = true := by
  cases b with
  | none => exact ⟨fun _ => rfl, fun _ => bc_11 hs⟩
  | some t => exact ⟨fun h => decide_eq_true h, fun h => of_decide_eq_true h⟩
section LA
variable {n : Nat} {x y : Nat → Nat} {thr hun rea : Nat} {hid flt : Int32}
theorem nI_dec {k : Nat} (h : 0 < k) : nI k - 1 = nI (k - 1) := by
  obtain ⟨k, rfl⟩ : ∃ j, k = j + 1 := ⟨k - 1, by omega⟩
  rw [← nI_1, Nat.add_sub_cancel]; simp
theorem C_lastL {p l q a : Nat} (hp : p < n) (hl : l < 4) (hq : q < n) (ha : a < 1024) : ∀ (j k m : Nat) (b : Option Nat) (h : Hp), k + j = a + 1 → j < m → (∀ t, b = some t → t < 1024) → Ctx h n x y thr hun rea hid flt → ∃ h', l_C_fewestHiddenFor_38 m (nI p) (nI l) (nI q) (nI a) (enc b) (xsB b) (nI k) h = some (enc (itr (lasS x y n hun thr hid p l q a) j k b), h') ∧ Same h h' := by
  intro j
  induction j with
  | zero =>
    intro k m b h hk hm hb c
    obtain ⟨m, rfl⟩ : ∃ m', m = m' + 1 := ⟨m - 1, by omega⟩
    exact ⟨h, by rw [l_C_fewestHiddenFor_38, if_pos (nI_lt (by omega) (by omega))]; rfl, Same.rf h⟩
  | succ j ih =>
    intro k m b h hk hm hb c
    obtain ⟨m, rfl⟩ : ∃ m', m = m' + 1 := ⟨m - 1, by omega⟩
    have hn := c.1.1
    have hi := fun h' (s1 : Same h h') => ih (k + 1) m (lasS x y n hun thr hid p l q a k b) h' (by omega) (by omega) (las_some (by omega) hb) (c.same s1)
    rw [l_C_fewestHiddenFor_38, if_neg (nI_nlt (by omega) (by omega)), nI_1, itr]
    by_cases h1 : nI k &&& (nI a ^^^ (-1)) = 0
    · rw [if_pos h1, bc_E, bnd_some]
      by_cases h2 : better k b = true
      · obtain ⟨h3, g1, g2, g3, g4⟩ := C_layS c (Or.inl rfl) hp hl (hid ||| nI k)
        have o := rowP_ok (x := x) (y := y) (hun := hun) (thr := thr) (hid := hid ||| nI k) hn hp l
        have o1 := o.1
        have pos : 0 < (rowL x y n hun thr hid p l k).length := Nat.succ_pos _
        have o2 : (rowL x y n hun thr hid p l k).getD ((rowL x y n hun thr hid p l k).length - 1) 0 < 10 := o.2 ((rowL x y n hun thr hid p l k).length - 1) (Nat.sub_lt pos (by omega))
        have o3 : (rowL x y n hun thr hid p l k).length ≤ 10 := o1
        have e1 : h3 15 1 = nI (rowL x y n hun thr hid p l k).length := g2.1
        have eh : f_Sp_here 15 h3 = some (nI ((rowL x y n hun thr hid p l k).getD ((rowL x y n hun thr hid p l k).length - 1) 0), h3) := by
          unfold f_Sp_here
          rw [e1, if_neg (show ¬ nI (rowL x y n hun thr hid p l k).length ≤ 0 from nI_ge (b := (rowL x y n hun thr hid p l k).length) (a := 0) pos (by omega)), nI_dec pos, chk_nI (by omega) (by omega), ix_nI (by omega), show h3 (15 + 1) _ = _ from RowAt.at (R := rowL x y n hun thr hid p l k) g2.2.1 (by omega)]
        obtain ⟨h4, f1, f2⟩ := hi h3 g4
        rw [if_pos ((better_x (by omega) b).mpr h2), chk40, c.2.1.2.2.1, g1, bnd_some, eh, bnd_some]
        refine ⟨h4, ?_, g4.tr f2⟩
        rw [← f1]
        unfold lasS
        rw [if_pos h1, if_pos h2]
        by_cases he : (rowL x y n hun thr hid p l k).getD ((rowL x y n hun thr hid p l k).length - 1) 0 = q
        · rw [if_pos (congrArg nI he), bc_E, bnd_some, if_pos (show ends _ _ = true from decide_eq_true he)]; rfl
        · rw [if_neg (fun w => he (nI_inj (by omega) (by omega) w)), if_neg (show ¬ ends _ _ = true from fun w => he (of_decide_eq_true w))]
      · obtain ⟨h4, f1, f2⟩ := hi h (Same.rf h)
        rw [if_neg (fun w => h2 ((better_x (by omega) b).mp w))]
        refine ⟨h4, ?_, f2⟩
        rw [← f1, show lasS x y n hun thr hid p l q a k b = b by unfold lasS; rw [if_pos h1, if_neg h2]]
    · obtain ⟨h4, f1, f2⟩ := hi h (Same.rf h)
      rw [if_neg h1]
      refine ⟨h4, ?_, f2⟩
      rw [← f1, show lasS x y n hun thr hid p l q a k b = b by unfold lasS; rw [if_neg h1]]
def lasR (w : Int32) : Option Nat → Int32
  | none => -1
  | some t => if w = 1 then nI t else bcE (nI t)
theorem M_lastL {p l q a : Nat} {w : Int32} (hp : p < n) (hl : l < 4) (hq : q < n) (ha : a < 1024) : ∀ (j k m : Nat) (b : Option Nat) (h : Hp), k + j = 2 ^ n → j < m → (∀ t, b = some t → t < 1024) → Ctx h n x y thr hun rea hid flt → MP h n x y → ∃ h', l_M_lastOf_54 m (nI p) (nI l) (nI q) w (nI a) (enc b) (nI k) h = some (lasR w (itr (lasS x y n hun thr hid p l q a) j k b), h') ∧ Same h h' ∧ MP h' n x y := by
  intro j
  induction j with
  | zero =>
    intro k m b h hk hm hb c hM
    obtain ⟨m, rfl⟩ : ∃ m', m = m' + 1 := ⟨m - 1, by omega⟩
    have hn := c.1.1
    have h2n := p2_le hn
    refine ⟨h, ?_, Same.rf h, hM⟩
    rw [l_M_lastOf_54, hM.1, sh_n n (by omega), if_pos (nI_le (by omega) (by omega)), itr]
    cases b with
    | none => rfl
    | some t =>
      have := hb t rfl
      rw [show enc (some t) = nI t from rfl, if_neg (m1_ne (by omega)), M_ones this, bnd_some]
      unfold lasR
      split <;> rfl
  | succ j ih =>
    intro k m b h hk hm hb c hM
    obtain ⟨m, rfl⟩ : ∃ m', m = m' + 1 := ⟨m - 1, by omega⟩
    have hn := c.1.1
    have h2n := p2_le hn
    have hi := fun h' (s1 : Same h h') M1 => ih (k + 1) m (lasS x y n hun thr hid p l q a k b) h' (by omega) (by omega) (las_some (by omega) hb) (c.same s1) M1
    rw [l_M_lastOf_54, hM.1, sh_n n (by omega), if_neg (nI_ge (by omega) (by omega)), nI_1, itr]
    by_cases h1 : nI k &&& (nI a ^^^ (-1)) = 0
    · rw [if_pos h1, c.2.2.1.1]
      obtain ⟨h3, g1, g2, g3, g4, g5, g6⟩ := M_layS c hM hp hl (hid ||| nI k)
      have o := rowP_ok (x := x) (y := y) (hun := hun) (thr := thr) (hid := hid ||| nI k) hn hp l
      have o1 := o.1
      have pos : 0 < (rowL x y n hun thr hid p l k).length := Nat.succ_pos _
      have o2 : (rowL x y n hun thr hid p l k).getD ((rowL x y n hun thr hid p l k).length - 1) 0 < 10 := o.2 ((rowL x y n hun thr hid p l k).length - 1) (Nat.sub_lt pos (by omega))
      have o3 : (rowL x y n hun thr hid p l k).length ≤ 10 := o1
      have e1 : h3 31 10 = nI (rowL x y n hun thr hid p l k).length := g2.1
      have go : better k b = true → ∃ h', (bnd (f_M_lays (nI p) (nI l) (hid ||| nI k) h) fun _ h11 => chk 11 ((h11 31 10) - 1) <| if (h11 35 (ix ((h11 31 10) - 1))) = nI q then (l_M_lastOf_54 m) (nI p) (nI l) (nI q) w (nI a) (nI k) (nI (k + 1)) h11 else (l_M_lastOf_54 m) (nI p) (nI l) (nI q) w (nI a) (enc b) (nI (k + 1)) h11) = some (lasR w (itr (lasS x y n hun thr hid p l q a) j (k + 1) (lasS x y n hun thr hid p l q a k b)), h') ∧ Same h h' ∧ MP h' n x y := by
        intro h2
        obtain ⟨h4, f1, f2, f3⟩ := hi h3 g4 g5
        refine ⟨h4, ?_, g4.tr f2, f3⟩
        rw [g1, bnd_some, e1, nI_dec pos, chk_nI (by omega) (by omega), ix_nI (by omega), show h3 35 _ = _ from RowAt.at (R := rowL x y n hun thr hid p l k) g2.2.1 (by omega), ← f1]
        unfold lasS
        rw [if_pos h1, if_pos h2]
        by_cases he : (rowL x y n hun thr hid p l k).getD ((rowL x y n hun thr hid p l k).length - 1) 0 = q
        · rw [if_pos (congrArg nI he), if_pos (show ends _ _ = true from decide_eq_true he)]; rfl
        · rw [if_neg (fun w => he (nI_inj (by omega) (by omega) w)), if_neg (show ¬ ends _ _ = true from fun w => he (of_decide_eq_true w))]
      cases b with
      | none =>
        rw [if_pos (show enc none = -1 from rfl)]
        exact go rfl
      | some t =>
        have ht := hb t rfl
        rw [show enc (some t) = nI t from rfl, if_neg (m1_ne (by omega)), M_ones (by omega), bnd_some, M_ones ht, bnd_some, c.2.2.1.1]
        by_cases h2 : better k (some t) = true
        · have : bcE (nI k) < bcE (nI t) := of_decide_eq_true h2
          rw [if_neg (show ¬ bcE (nI t) ≤ bcE (nI k) by rw [lt_iff] at this; rw [le_iff]; omega)]
          exact go h2
        · have : ¬ bcE (nI k) < bcE (nI t) := fun w => h2 (decide_eq_true w)
          rw [if_pos (show bcE (nI t) ≤ bcE (nI k) by rw [lt_iff] at this; rw [le_iff]; omega)]
          obtain ⟨h4, f1, f2, f3⟩ := hi h (Same.rf h) hM
          refine ⟨h4, ?_, f2, f3⟩
          rw [← f1, show lasS x y n hun thr hid p l q a k (some t) = some t by unfold lasS; rw [if_pos h1, if_neg h2]]; rfl
    · obtain ⟨h4, f1, f2, f3⟩ := hi h (Same.rf h) hM
      rw [if_neg h1]
      refine ⟨h4, ?_, f2, f3⟩
      rw [← f1, show lasS x y n hun thr hid p l q a k b = b by unfold lasS; rw [if_neg h1]]
theorem las_tail {p l q a N : Nat} (hN : N ≤ 1024) (ha : a < N) : ∀ (j k : Nat) (b : Option Nat), k + j = N → a < k → itr (lasS x y n hun thr hid p l q a) j k b = b
  | 0, _, _, _, _ => rfl
  | j + 1, k, b, h1, h2 => by
    rw [itr, show lasS x y n hun thr hid p l q a k b = b by
      unfold lasS; rw [if_neg (fun w => by have := sub_le (s := k) (a := a) (by omega) (by omega) w; omega)]]
    exact las_tail hN ha j (k + 1) b (by omega) (by omega)
theorem itr_app {σ : Type} {st : Nat → σ → σ} : ∀ (i j k : Nat) (s : σ), itr st (i + j) k s = itr st j (k + i) (itr st i k s)
  | 0, j, k, s => by rw [Nat.zero_add]; rfl
  | i + 1, j, k, s => by
    rw [show i + 1 + j = (i + j) + 1 by omega, itr, itr, itr_app i j (k + 1) (st k s), show k + 1 + i = k + (i + 1) by omega]
/-- pegs that may be taken away -/
def alw (n : Nat) (hid : Int32) (p q : Nat) : Int32 := ((((((1 : Int32) <<< (nI n &&& 31)) - 1) &&& (hid ^^^ (-1))) &&& (((1 : Int32) <<< (nI p &&& 31)) ^^^ (-1))) &&& (((1 : Int32) <<< (nI q &&& 31)) ^^^ (-1)))
theorem alw_ex (hn : n ≤ 10) (p q : Nat) : ∃ a, a < 2 ^ n ∧ alw n hid p q = nI a := by
  obtain ⟨a, h1, h2⟩ := and_all2 (n := n) ((hid ^^^ (-1)) &&& (((1 : Int32) <<< (nI p &&& 31)) ^^^ (-1)) &&& (((1 : Int32) <<< (nI q &&& 31)) ^^^ (-1))) hn
  refine ⟨a, h1, ?_⟩
  rw [← h2]
  unfold alw
  rw [Int32.and_assoc, Int32.and_assoc, Int32.and_assoc]
def lasV (x y : Nat → Nat) (n hun thr : Nat) (hid : Int32) (p l q : Nat) (w : Int32) : Int32 := if bt hid p = true then -3 else if bt hid q = true then -3 else lasR w (itr (lasS x y n hun thr hid p l q (ix (alw n hid p q))) (2 ^ n) 0 none)
variable {h : Hp}
theorem C_lastP (c : Ctx h n x y thr hun rea hid flt) {p l q : Nat} {w : Int32} (hp : p < n) (hl : l < 4) (hq : q < n) (hpq : p ≠ q) (hw : w = 0 ∨ w = 1) : Ans (f_C_last (nI p) (nI l) (nI q) w) (lasV x y n hun thr hid p l q w) h := by
  have hn := c.1.1
  have h2n := p2_le hn
  have w0 : ¬ w < 0 := by rcases hw with rfl | rfl <;> decide
  have w1 : w ≤ 1 := by rcases hw with rfl | rfl <;> decide
  unfold Ans f_C_last
  rw [C_can c, inN_nI hp (by omega), inN_nI hl (by omega), bnd_some, if_neg (by decide), Fr_has _ c.2.1.1 hn, inN_nI hq (by omega), bnd_some, if_neg (by decide), if_neg (fun z => hpq (nI_inj (by omega) (by omega) z)), if_neg w0, if_pos w1, C_isHidden c (by omega), bnd_some]
  unfold lasV
  cases hb : bt hid p with
  | true => exact ⟨h, by rw [if_neg (by decide), if_pos rfl], Same.rf h⟩
  | false =>
    rw [if_pos (show (if false = true then (1 : Int32) else 0) = 0 by decide), if_neg (show ¬ false = true by decide), C_isHidden c (by omega), bnd_some]
    cases hb2 : bt hid q with
    | true => exact ⟨h, by rw [if_neg (by decide), if_pos rfl], Same.rf h⟩
    | false =>
      rw [if_pos (show (if false = true then (1 : Int32) else 0) = 0 by decide), if_neg (show ¬ false = true by decide)]
      obtain ⟨a, ha, ea⟩ := alw_ex (hid := hid) hn p q
      obtain ⟨h1, e1, s1⟩ := C_lastL (a := a) hp hl hq (by omega) (a + 1) 0 FUEL none h (by omega) (show a + 1 < 5000 by omega) (fun t z => by cases z) c
      have ef : f_C_fewestHiddenFor (nI p) (nI l) (nI q) h = some (enc (itr (lasS x y n hun thr hid p l q a) (a + 1) 0 none), h1) := by
        unfold f_C_fewestHiddenFor f_Fr_all
        rw [bnd_some, c.2.1.1, c.2.1.2.2.1, show ((((((1 : Int32) <<< (nI n &&& 31)) - 1) &&& (hid ^^^ (-1))) &&& (((1 : Int32) <<< (nI p &&& 31)) ^^^ (-1))) &&& (((1 : Int32) <<< (nI q &&& 31)) ^^^ (-1))) = nI a from ea]
        exact e1
      rw [ea, ix_nI (by omega), show 2 ^ n = (a + 1) + (2 ^ n - (a + 1)) by omega, itr_app, las_tail (N := 2 ^ n) h2n ha (2 ^ n - (a + 1)) (0 + (a + 1)) _ (by omega) (by omega), ef, bnd_some]
      refine ⟨h1, ?_, s1⟩
      have hsm : ∀ t, itr (lasS x y n hun thr hid p l q a) (a + 1) 0 none = some t → t < 1024 := by
        have : ∀ (j k : Nat) (b : Option Nat), k + j = a + 1 → (∀ t, b = some t → t < 1024) → ∀ t, itr (lasS x y n hun thr hid p l q a) j k b = some t → t < 1024 := by
          intro j
          induction j with
          | zero => intro k b _ hb; exact hb
          | succ j ih => intro k b hk hb; rw [itr]; exact ih (k + 1) _ (by omega) (las_some (by omega) hb)
        exact this (a + 1) 0 none (by omega) (fun t z => by cases z)
      generalize itr (lasS x y n hun thr hid p l q a) (a + 1) 0 none = r at hsm
      cases r with
      | none => rfl
      | some t =>
        have := hsm t rfl
        rw [show enc (some t) = nI t from rfl, if_neg (m1_ne (by omega)), bc_E, bnd_some]
        rcases hw with rfl | rfl
        · rw [if_pos rfl]; show _ = some ((if (0 : Int32) = 1 then nI t else bcE (nI t)), h1); rw [if_neg (show ¬ (0 : Int32) = 1 by decide)]
        · rw [if_neg (show ¬ (1 : Int32) = 0 by decide)]; show _ = some ((if (1 : Int32) = 1 then nI t else bcE (nI t)), h1); rw [if_pos rfl]
theorem M_lastOf (c : Ctx h n x y thr hun rea hid flt) (hM : MP h n x y) {p l q : Nat} (w : Int32) (hp : p < n) (hl : l < 4) (hq : q < n) : AnsM n x y (f_M_lastOf (nI p) (nI l) (nI q) w) (lasV x y n hun thr hid p l q w) h := by
  have hn := c.1.1
  have h2n := p2_le hn
  unfold AnsM f_M_lastOf
  rw [M_isHidden c (by omega), bnd_some]
  unfold lasV
  cases hb : bt hid p with
  | true => exact ⟨h, by rw [if_neg (by decide), if_pos rfl], Same.rf h, hM⟩
  | false =>
    rw [if_pos (show (if false = true then (1 : Int32) else 0) = 0 by decide), if_neg (show ¬ false = true by decide), M_isHidden c (by omega), bnd_some]
    cases hb2 : bt hid q with
    | true => exact ⟨h, by rw [if_neg (by decide), if_pos rfl], Same.rf h, hM⟩
    | false =>
      obtain ⟨a, ha, ea⟩ := alw_ex (hid := hid) hn p q
      obtain ⟨h1, e1, s1, M1⟩ := M_lastL (a := a) (w := w) hp hl hq (by omega) (2 ^ n) 0 FUEL none h (by omega) (show 2 ^ n < 5000 by omega) (fun t z => by cases z) c hM
      rw [if_pos (show (if false = true then (1 : Int32) else 0) = 0 by decide), if_neg (show ¬ false = true by decide), hM.1, c.2.2.1.1, show ((((((1 : Int32) <<< (nI n &&& 31)) - 1) &&& (hid ^^^ (-1))) &&& (((1 : Int32) <<< (nI p &&& 31)) ^^^ (-1))) &&& (((1 : Int32) <<< (nI q &&& 31)) ^^^ (-1))) = nI a from ea, ea, ix_nI (by omega)]
      exact ⟨h1, e1, s1, M1⟩
end LA
theorem in2 (u : Int32) : inN u 2 = true → u = 0 ∨ u = 1 := by
  intro h
  obtain ⟨k, hk, rfl⟩ := inN_ex h (by omega)
  rcases (show k = 0 ∨ k = 1 by omega) with rfl | rfl
  · exact Or.inl rfl
  · exact Or.inr rfl
theorem le1L (u : Int32) : (¬ u < 0 ∧ u ≤ 1) ↔ inN u 2 = true := by
  have e0 : (0 : Int32).toInt = 0 := by decide
  have e2 : (1 : Int32).toInt = 1 := by decide
  simp only [lt_iff, le_iff, e0, e2, inN, decide_eq_true_eq]; omega
theorem op_last (x1 x2 x3 x4 : Int32) : OpOK Rel (f_C_last x1 x2 x3 x4) (f_M_last x1 x2 x3 x4) := by
  refine op_of (fun h n x y thr hun rea hid flt c => ?_)
  have hn := c.1.1
  by_cases hb : (inN x1 n && inN x2 4) = true
  · obtain ⟨b1, b2⟩ := Bool.and_eq_true_iff.mp hb
    obtain ⟨p, hp, rfl⟩ := inN_ex b1 (by omega)
    obtain ⟨l, hl, rfl⟩ := inN_ex b2 (by omega)
    by_cases h3 : inN x3 n = true
    · obtain ⟨q, hq, rfl⟩ := inN_ex h3 (by omega)
      by_cases hpq : p = q
      · subst hpq
        refine ⟨-2, ⟨h, ?_, Same.rf h⟩, fun g cg => ?_⟩
        · unfold f_C_last
          rw [C_can c, hb, bnd_some, if_neg (by decide), Fr_has _ c.2.1.1 hn, h3, bnd_some, if_neg (by decide), if_pos rfl]
        · obtain ⟨h1, g1, g2, g3, g4⟩ := M_isWeb cg (nI p) (nI l)
          obtain ⟨h2, k1, k2, k3, k4⟩ := g4.isPeg (nI p)
          refine ⟨h2, ?_, g2.tr k2⟩
          unfold f_M_last
          rw [g1, hb, bnd_some, if_neg (by decide), k1, h3, bnd_some, if_neg (by decide), if_pos rfl]
      · have ne : ¬ nI p = nI q := fun z => hpq (nI_inj (by omega) (by omega) z)
        by_cases h4 : inN x4 2 = true
        · refine ⟨_, C_lastP c hp hl hq hpq (in2 x4 h4), fun g cg => ?_⟩
          obtain ⟨h1, g1, g2, g3, g4⟩ := M_isWeb cg (nI p) (nI l)
          obtain ⟨h2, k1, k2, k3, k4⟩ := g4.isPeg (nI q)
          obtain ⟨h5, f1, f2, f3⟩ := M_lastOf k4 k3 x4 hp hl hq
          refine ⟨h5, ?_, (g2.tr k2).tr f2⟩
          unfold f_M_last
          rw [g1, hb, bnd_some, if_neg (by decide), k1, h3, bnd_some, if_neg (by decide), if_neg ne, show f_M_in x4 0 1 h2 = _ from in_lit x4 (n := 1) (by omega) h2, h4, bnd_some, if_neg (by decide), f1, bnd_some]
        · refine ⟨-2, ⟨h, ?_, Same.rf h⟩, fun g cg => ?_⟩
          · unfold f_C_last
            rw [C_can c, hb, bnd_some, if_neg (by decide), Fr_has _ c.2.1.1 hn, h3, bnd_some, if_neg (by decide), if_neg ne]
            by_cases q0 : x4 < 0
            · rw [if_pos q0]
            · rw [if_neg q0, if_neg (show ¬ x4 ≤ 1 from fun z => h4 ((le1L x4).mp ⟨q0, z⟩))]
          · obtain ⟨h1, g1, g2, g3, g4⟩ := M_isWeb cg (nI p) (nI l)
            obtain ⟨h2, k1, k2, k3, k4⟩ := g4.isPeg (nI q)
            refine ⟨h2, ?_, g2.tr k2⟩
            unfold f_M_last
            rw [g1, hb, bnd_some, if_neg (by decide), k1, h3, bnd_some, if_neg (by decide), if_neg ne, show f_M_in x4 0 1 h2 = _ from in_lit x4 (n := 1) (by omega) h2, bnd_some, if_neg h4, if_pos rfl]
    · refine ⟨-2, ⟨h, ?_, Same.rf h⟩, fun g cg => ?_⟩
      · unfold f_C_last
        rw [C_can c, hb, bnd_some, if_neg (by decide), Fr_has _ c.2.1.1 hn, bnd_some, if_neg h3, if_pos rfl]
      · obtain ⟨h1, g1, g2, g3, g4⟩ := M_isWeb cg (nI p) (nI l)
        obtain ⟨h2, k1, k2, k3, k4⟩ := g4.isPeg x3
        refine ⟨h2, ?_, g2.tr k2⟩
        unfold f_M_last
        rw [g1, hb, bnd_some, if_neg (by decide), k1, bnd_some, if_neg h3, if_pos rfl]
  · refine ⟨-2, ⟨h, ?_, Same.rf h⟩, fun g cg => ?_⟩
    · unfold f_C_last
      rw [C_can c, bnd_some, if_neg hb, if_pos rfl]
    · obtain ⟨h1, g1, g2, g3, g4⟩ := M_isWeb cg x1 x2
      refine ⟨h1, ?_, g2⟩
      unfold f_M_last
      rw [g1, bnd_some, if_neg hb, if_pos rfl]
