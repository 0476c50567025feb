/-! PURE: two -/
theorem rem2 {p : Nat} (hp : p < 2 ^ 31) : nI p - nI p / 2 * 2 = nI (p % 2) := pk_rem (d := 2) hp (by omega) (by omega)
def tw (x y : Nat → Nat) (n hun l1 l2 : Nat) : Nat → Nat → Int32 → Nat → Nat → Nat → Nat → Nat → Nat → Int32 → Nat → Nat × Nat × Int32
  | 0, _, _, _, _, _, _, n1, n2, last, _ => (n1, n2, last)
  | k + 1, T, f, a1, a2, s1, s2, n1, n2, last, vain =>
    if 2 ≤ vain then (n1, n2, last) else
    if T % 2 = 0 then
      match sel (rkC x y l1 a1) (bt f) n with
      | none => tw x y n hun l1 l2 k (T + 1) f a1 a2 s1 s2 n1 n2 last (vain + 1)
      | some q => if farN x y a1 q + hun ≤ s1 then tw x y n hun l1 l2 k (T + 1) (f &&& (((1 : Int32) <<< (nI q &&& 31)) ^^^ (-1))) q a2 (s1 - (farN x y a1 q + hun)) s2 (n1 + 1) n2 (nI q) 0 else tw x y n hun l1 l2 k (T + 1) f a1 a2 s1 s2 n1 n2 last (vain + 1)
    else
      match sel (rkC x y l2 a2) (bt f) n with
      | none => tw x y n hun l1 l2 k (T + 1) f a1 a2 s1 s2 n1 n2 last (vain + 1)
      | some q => if farN x y a2 q + hun ≤ s2 then tw x y n hun l1 l2 k (T + 1) (f &&& (((1 : Int32) <<< (nI q &&& 31)) ^^^ (-1))) a1 q s1 (s2 - (farN x y a2 q + hun)) n1 (n2 + 1) (nI q) 0 else tw x y n hun l1 l2 k (T + 1) f a1 a2 s1 s2 n1 n2 last (vain + 1)
theorem goOn_2 {a : Nat} {u v w : Int32} {h h' : Hp} {r : Int32} (e : f_Sp_goOn a u v w h = some (r, h')) : h' a 2 = h a 2 := by
  unfold f_Sp_goOn at e
  split at e
  · cases e; rfl
  · split at e
    · unfold chk at e
      split at e
      · cases e
        rw [hset_ne (by omega), hset_ne (by omega), hset_ne (by omega), hset_ne (by omega)]
      · cases e
    · cases e; rfl
theorem cnt_step {f : Int32} {q n : Nat} (hq : q < n) (hn : n ≤ 10) (hf : bt f q = true) : cnt (bt (f &&& (((1 : Int32) <<< (nI q &&& 31)) ^^^ (-1)))) n + 1 = cnt (bt f) n := by
  rw [cnt_congr (del_bt (f := f) hq (by omega)), cnt_del hf hq]
section TW
variable {n : Nat} {x y : Nat → Nat} {thr hun rea : Nat} {hid flt : Int32} {l1 l2 : Nat}
theorem C_twoL (hl1 : l1 < 4) (hl2 : l2 < 4) : ∀ (k T m : Nat) (f : Int32) (R1 R2 : List Nat) (a1 a2 w1 w2 s1 s2 : Nat) (last : Int32) (vain : Nat) (h : Hp), Ctx h n x y thr hun rea hid flt → T + k < 40 → k < m → 2 * cnt (bt f) n + 2 ≤ k + vain → vain ≤ 2 → a1 < n → a2 < n → (R1.length + 1) + (R2.length + 1) + cnt (bt f) n ≤ 10 → w1 + s1 ≤ 200 → w2 + s2 ≤ 200 → SpR h 15 (R1 ++ [a1]) w1 s1 → SpR h 17 (R2 ++ [a2]) w2 s2 → h 15 2 = nI l1 → h 17 2 = nI l2 →
    ∃ h', l_C_stepInTurn_42 m 15 17 f last (nI vain) (nI T) h = some ((tw x y n hun l1 l2 k T f a1 a2 s1 s2 (R1.length + 1) (R2.length + 1) last vain).2.2, h') ∧ h' 15 1 = nI (tw x y n hun l1 l2 k T f a1 a2 s1 s2 (R1.length + 1) (R2.length + 1) last vain).1 ∧ h' 17 1 = nI (tw x y n hun l1 l2 k T f a1 a2 s1 s2 (R1.length + 1) (R2.length + 1) last vain).2.1 ∧ Same h h' := by
  intro k
  induction k with
  | zero =>
    intro T m f R1 R2 a1 a2 w1 w2 s1 s2 last vain h c hT hm hc hv ha1 ha2 hR hw1 hw2 S1 S2 e1 e2
    obtain ⟨m, rfl⟩ : ∃ m', m = m' + 1 := ⟨m - 1, by omega⟩
    have : vain = 2 := by omega
    subst this
    refine ⟨h, ?_, ?_, ?_, Same.rf h⟩
    · rw [l_C_stepInTurn_42, if_pos (show (2 : Int32) ≤ nI 2 by decide), ite_self, tw]
    · rw [tw, S1.1]; simp
    · rw [tw, S2.1]; simp
  | succ k ih =>
    intro T m f R1 R2 a1 a2 w1 w2 s1 s2 last vain h c hT hm hc hv ha1 ha2 hR hw1 hw2 S1 S2 e1 e2
    obtain ⟨m, rfl⟩ : ∃ m', m = m' + 1 := ⟨m - 1, by omega⟩
    have hn := c.1.1
    have hun9 := c.1.2.2.2.1
    rw [l_C_stepInTurn_42, if_neg (show ¬ (40 : Int32) ≤ nI T from nI_ge (b := 40) (by omega) (by omega)), tw]
    by_cases hv2 : 2 ≤ vain
    · rw [if_pos (show (2 : Int32) ≤ nI vain from nI_le (a := 2) hv2 (by omega)), if_pos hv2]
      refine ⟨h, rfl, ?_, ?_, Same.rf h⟩
      · rw [S1.1]; simp
      · rw [S2.1]; simp
    · rw [if_neg (show ¬ (2 : Int32) ≤ nI vain from nI_ge (b := 2) (by omega) (by omega)), if_neg hv2, rem2 (by omega), nI_1, nI_1]
      have hvain := ih (T + 1) m f R1 R2 a1 a2 w1 w2 s1 s2 last (vain + 1) h c (by omega) (by omega) (by omega) (by omega) ha1 ha2 hR hw1 hw2 S1 S2 e1 e2
      by_cases hT2 : T % 2 = 0
      · rw [if_pos (show nI (T % 2) = 0 by rw [hT2]; rfl), if_pos hT2]
        have hh := Sp_here S1 (by omega)
        rw [hh, bnd_some, e1, Fr_choose c.2.1.2.1 c.2.1.1 hn hl1 ha1, bnd_some]
        cases hsel : sel (rkC x y l1 a1) (bt f) n with
        | none => dsimp only; rw [if_pos (show enc none = -1 from rfl)]; exact hvain
        | some q =>
          obtain ⟨hq, hfq⟩ := sel_in hsel
          have b1 := c.1.2.1.1 a1 ha1
          have b2 := c.1.2.1.1 q hq
          have hf := farN_lt (x := x) (y := y) (p := a1) (q := q) b1.1 b2.1 b1.2 b2.2
          have hcs := cnt_step hq hn hfq
          rw [show enc (some q) = nI q from rfl]
          dsimp only
          rw [if_neg (m1_ne (k := q) (by omega)), hh, bnd_some, Fr_apart c.2.1.2.1 hn ha1 hq, bnd_some, c.2.1.2.2.2.2.1]
          have hgo := Sp_goOn (t := q) S1 (by simp; omega) hf hun9 (by omega) (by omega)
          by_cases hle : farN x y a1 q + hun ≤ s1
          · rw [if_pos hle] at hgo
            obtain ⟨h1, g1, g2, g3⟩ := hgo
            have g4 := goOn_2 g1
            have sm := Same.sp (a := 15) (by omega) g3
            have hlen : (R1 ++ [a1]).length + 1 = R1.length + 1 + 1 := by simp
            have key := ih (T + 1) m (f &&& (((1 : Int32) <<< (nI q &&& 31)) ^^^ (-1))) (R1 ++ [a1]) R2 q a2 (w1 + farN x y a1 q) w2 (s1 - (farN x y a1 q + hun)) s2 (nI q) 0 h1 (c.same sm) (by omega) (by omega) (by omega) (by omega) hq ha2 (by omega) (by omega) (by omega) g2 (by unfold SpR; rw [g3 17 (by omega) (by omega), g3 (17 + 1) (by omega) (by omega)]; exact S2) (g4.trans e1) (by rw [g3 17 (by omega) (by omega)]; exact e2)
            rw [hlen] at key
            obtain ⟨h2, k1, k2, k3, k4⟩ := key
            rw [g1, bnd_some, if_neg (show ¬ (1 : Int32) = 0 by decide), if_pos hle]
            exact ⟨h2, k1, k2, k3, sm.tr k4⟩
          · rw [if_neg hle] at hgo
            rw [hgo, bnd_some, if_pos (show (0 : Int32) = 0 from rfl), if_neg hle]
            exact hvain
      · rw [if_neg (show ¬ nI (T % 2) = 0 by rw [show T % 2 = 1 by omega]; decide), if_neg hT2]
        have hh := Sp_here S2 (by omega)
        rw [hh, bnd_some, e2, Fr_choose c.2.1.2.1 c.2.1.1 hn hl2 ha2, bnd_some]
        cases hsel : sel (rkC x y l2 a2) (bt f) n with
        | none => dsimp only; rw [if_pos (show enc none = -1 from rfl)]; exact hvain
        | some q =>
          obtain ⟨hq, hfq⟩ := sel_in hsel
          have b1 := c.1.2.1.1 a2 ha2
          have b2 := c.1.2.1.1 q hq
          have hf := farN_lt (x := x) (y := y) (p := a2) (q := q) b1.1 b2.1 b1.2 b2.2
          have hcs := cnt_step hq hn hfq
          rw [show enc (some q) = nI q from rfl]
          dsimp only
          rw [if_neg (m1_ne (k := q) (by omega)), hh, bnd_some, Fr_apart c.2.1.2.1 hn ha2 hq, bnd_some, c.2.1.2.2.2.2.1]
          have hgo := Sp_goOn (t := q) S2 (by simp; omega) hf hun9 (by omega) (by omega)
          by_cases hle : farN x y a2 q + hun ≤ s2
          · rw [if_pos hle] at hgo
            obtain ⟨h1, g1, g2, g3⟩ := hgo
            have g4 := goOn_2 g1
            have sm := Same.sp (a := 17) (by omega) g3
            have hlen : (R2 ++ [a2]).length + 1 = R2.length + 1 + 1 := by simp
            have key := ih (T + 1) m (f &&& (((1 : Int32) <<< (nI q &&& 31)) ^^^ (-1))) R1 (R2 ++ [a2]) a1 q w1 (w2 + farN x y a2 q) s1 (s2 - (farN x y a2 q + hun)) (nI q) 0 h1 (c.same sm) (by omega) (by omega) (by omega) (by omega) ha1 hq (by omega) (by omega) (by omega) (by unfold SpR; rw [g3 15 (by omega) (by omega), g3 (15 + 1) (by omega) (by omega)]; exact S1) g2 (by rw [g3 15 (by omega) (by omega)]; exact e1) (g4.trans e2)
            rw [hlen] at key
            obtain ⟨h2, k1, k2, k3, k4⟩ := key
            rw [g1, bnd_some, if_neg (show ¬ (1 : Int32) = 0 by decide), if_pos hle]
            exact ⟨h2, k1, k2, k3, sm.tr k4⟩
          · rw [if_neg hle] at hgo
            rw [hgo, bnd_some, if_pos (show (0 : Int32) = 0 from rfl), if_neg hle]
            exact hvain
def twR (w : Int32) (r : Nat × Nat × Int32) : Int32 := if w = 0 then nI r.1 else if w = 1 then nI r.2.1 else r.2.2
theorem bt_stay {f : Int32} {q a n : Nat} (hq : q < n) (ha : a < n) (hn : n ≤ 10) (hf : bt f a = false) : bt (f &&& (((1 : Int32) <<< (nI q &&& 31)) ^^^ (-1))) a = false := by
  rw [bt_del f (by omega) (by omega), hf]; rfl
theorem bt_gone {f : Int32} {q n : Nat} (hq : q < n) (hn : n ≤ 10) : bt (f &&& (((1 : Int32) <<< (nI q &&& 31)) ^^^ (-1))) q = false := by
  rw [bt_del f (by omega) (by omega)]; simp
theorem M_twoL (hl1 : l1 < 4) (hl2 : l2 < 4) {w : Int32} {h : Hp} (c : Ctx h n x y thr hun rea hid flt) (hM : MP h n x y) : ∀ (k T m : Nat) (f : Int32) (a1 a2 s1 s2 n1 n2 : Nat) (last : Int32) (vain : Nat), k < m → 2 * cnt (bt f) n + 2 ≤ k + vain → vain ≤ 2 → a1 < n → a2 < n → s1 ≤ 200 → s2 ≤ 200 → bt f a1 = false → bt f a2 = false →
    l_M_twoOf_81 m (nI l1) (nI l2) w f (nI a1) (nI a2) (nI s1) (nI s2) (nI n1) (nI n2) last (nI vain) (if T % 2 = 0 then 1 else 0) h = some (twR w (tw x y n hun l1 l2 k T f a1 a2 s1 s2 n1 n2 last vain), h) := by
  have hn := c.1.1
  have hun9 := c.1.2.2.2.1
  intro k
  induction k with
  | zero =>
    intro T m f a1 a2 s1 s2 n1 n2 last vain hm hc hv ha1 ha2 hs1 hs2 z1 z2
    obtain ⟨m, rfl⟩ : ∃ m', m = m' + 1 := ⟨m - 1, by omega⟩
    have : vain = 2 := by omega
    subst this
    rw [l_M_twoOf_81, if_pos (show (2 : Int32) ≤ nI 2 by decide), tw]
    unfold twR
    split
    · rfl
    · split <;> rfl
  | succ k ih =>
    intro T m f a1 a2 s1 s2 n1 n2 last vain hm hc hv ha1 ha2 hs1 hs2 z1 z2
    obtain ⟨m, rfl⟩ : ∃ m', m = m' + 1 := ⟨m - 1, by omega⟩
    rw [l_M_twoOf_81, tw]
    by_cases hv2 : 2 ≤ vain
    · rw [if_pos (show (2 : Int32) ≤ nI vain from nI_le (a := 2) hv2 (by omega)), if_pos hv2]
      unfold twR
      split
      · rfl
      · split <;> rfl
    · rw [if_neg (show ¬ (2 : Int32) ≤ nI vain from nI_ge (b := 2) (by omega) (by omega)), if_neg hv2]
      have hvain := ih (T + 1) m f a1 a2 s1 s2 n1 n2 last (vain + 1) (by omega) (by omega) (by omega) ha1 ha2 hs1 hs2 z1 z2
      rw [← nI_1] at hvain
      by_cases hT2 : T % 2 = 0
      · rw [if_neg (show ¬ (T + 1) % 2 = 0 by omega)] at hvain
        rw [if_pos hT2, if_neg (show ¬ (1 : Int32) = 0 by decide), if_pos hT2]
        rw [M_nextOf hM.2 hM.1 (by omega) hl1 ha1, sel_M c.1.2.1 hn hl1 ha1 z1, bnd_some]
        cases hsel : sel (rkC x y l1 a1) (bt f) n with
        | none => dsimp only; rw [if_pos (show enc none = -1 from rfl)]; exact hvain
        | some q =>
          obtain ⟨hq, hfq⟩ := sel_in hsel
          have b1 := c.1.2.1.1 a1 ha1
          have b2 := c.1.2.1.1 q hq
          have hf := farN_lt (x := x) (y := y) (p := a1) (q := q) b1.1 b2.1 b1.2 b2.2
          have hcs := cnt_step hq hn hfq
          rw [show enc (some q) = nI q from rfl]
          dsimp only
          rw [if_neg (m1_ne (k := q) (by omega)), M_farOf hM.2 (by omega) ha1 hq, bnd_some, c.2.2.1.2.2.1, nI_add]
          by_cases hle : farN x y a1 q + hun ≤ s1
          · have key := ih (T + 1) m (f &&& (((1 : Int32) <<< (nI q &&& 31)) ^^^ (-1))) q a2 (s1 - (farN x y a1 q + hun)) s2 (n1 + 1) n2 (nI q) 0 (by omega) (by omega) (by omega) hq ha2 (by omega) (by omega) (bt_gone hq hn) (bt_stay hq ha2 hn z2)
            rw [if_neg (show ¬ (T + 1) % 2 = 0 by omega), ← nI_1] at key
            rw [if_pos (nI_le hle (by omega)), if_pos hle, M_farOf hM.2 (by omega) ha1 hq, bnd_some, c.2.2.1.2.2.1, nI_add, pk_sub hle, show nI n2 + 0 = nI n2 by simp]
            exact key
          · rw [if_neg (show ¬ nI (farN x y a1 q + hun) ≤ nI s1 from nI_ge (by omega) (by omega)), if_neg hle]
            exact hvain
      · rw [if_pos (show (T + 1) % 2 = 0 by omega)] at hvain
        rw [if_neg hT2, if_pos (show (0 : Int32) = 0 from rfl), if_neg hT2]
        rw [M_nextOf hM.2 hM.1 (by omega) hl2 ha2, sel_M c.1.2.1 hn hl2 ha2 z2, bnd_some]
        cases hsel : sel (rkC x y l2 a2) (bt f) n with
        | none => dsimp only; rw [if_pos (show enc none = -1 from rfl)]; exact hvain
        | some q =>
          obtain ⟨hq, hfq⟩ := sel_in hsel
          have b1 := c.1.2.1.1 a2 ha2
          have b2 := c.1.2.1.1 q hq
          have hf := farN_lt (x := x) (y := y) (p := a2) (q := q) b1.1 b2.1 b1.2 b2.2
          have hcs := cnt_step hq hn hfq
          rw [show enc (some q) = nI q from rfl]
          dsimp only
          rw [if_neg (m1_ne (k := q) (by omega)), M_farOf hM.2 (by omega) ha2 hq, bnd_some, c.2.2.1.2.2.1, nI_add]
          by_cases hle : farN x y a2 q + hun ≤ s2
          · have key := ih (T + 1) m (f &&& (((1 : Int32) <<< (nI q &&& 31)) ^^^ (-1))) a1 q s1 (s2 - (farN x y a2 q + hun)) n1 (n2 + 1) (nI q) 0 (by omega) (by omega) (by omega) ha1 hq (by omega) (by omega) (bt_stay hq ha1 hn z1) (bt_gone hq hn)
            rw [if_pos (show (T + 1) % 2 = 0 by omega), ← nI_1] at key
            rw [if_pos (nI_le hle (by omega)), if_pos hle, M_farOf hM.2 (by omega) ha2 hq, bnd_some, c.2.2.1.2.2.1, nI_add, pk_sub hle, show nI n1 + 0 = nI n1 by simp]
            exact key
          · rw [if_neg (show ¬ nI (farN x y a2 q + hun) ≤ nI s2 from nI_ge (by omega) (by omega)), if_neg hle]
            exact hvain
theorem alw_bt (hn : n ≤ 10) {p q k : Nat} (hp : p < n) (hq : q < n) (hk : k < n) (h : k = p ∨ k = q) : bt (alw n hid p q) k = false := by
  unfold alw
  rw [bt_del _ (by omega) (by omega), bt_del _ (by omega) (by omega)]
  rcases h with rfl | rfl <;> simp
theorem alw_cnt (hn : n ≤ 10) {p q : Nat} (hp : p < n) (hq : q < n) (hpq : p ≠ q) : cnt (bt (alw n hid p q)) n + 2 ≤ n := by
  have z1 := alw_bt (hid := hid) hn hp hq hp (Or.inl rfl)
  have z2 := alw_bt (hid := hid) hn hp hq hq (Or.inr rfl)
  have e1 := cnt_del (fr := fun k => bt (alw n hid p q) k || decide (k = q)) (t := q) (by simp) hq
  have e2 : cnt (del (fun k => bt (alw n hid p q) k || decide (k = q)) q) n = cnt (bt (alw n hid p q)) n := cnt_congr (fun k hk => by
    unfold del
    by_cases e : k = q
    · subst e; rw [z2]; simp
    · simp [e])
  have e3 := cnt_lt (fr := fun k => bt (alw n hid p q) k || decide (k = q)) (t := p) (by simp [z1, hpq]) hp
  omega
def twoV (x y : Nat → Nat) (n hun thr : Nat) (hid : Int32) (p l1 q l2 : Nat) (w : Int32) : Int32 := if bt hid p = true then -3 else if bt hid q = true then -3 else twR w (tw x y n hun l1 l2 30 0 (alw n hid p q) p q thr thr 1 1 (-1) 0)
theorem start_at {a p l t : Nat} {h : Hp} : ∃ h', f_Sp_startAt a (nI p) (nI l) (nI t) h = some ((), h') ∧ SpR h' a ([] ++ [p]) 0 t ∧ h' a 2 = nI l ∧ ∀ b, b ≠ a → b ≠ a + 1 → h' b = h b := by
  refine ⟨_, rfl, ⟨?_, ?_, ?_, ?_⟩, ?_, fun b h1 h2 => funext fun i => ?_⟩
  · rw [hset_ne (by omega), hset_ne (by omega), hset_ne (by omega), hset_eq]; rfl
  · intro i t' hi
    have : i = 0 := by
      rcases Nat.eq_zero_or_pos i with z | z
      · exact z
      · rw [List.getElem?_eq_none (by simp; omega)] at hi; cases hi
    subst this
    have : p = t' := by simpa using hi
    subst this
    rw [hset_ne (by omega), hset_ne (by omega), hset_ne (by omega), hset_ne (by omega)]
    exact hset_eq _ _ _ _
  · rw [hset_ne (by omega), hset_eq]; rfl
  · rw [hset_eq]
  · rw [hset_ne (by omega), hset_ne (by omega), hset_eq]
  · rw [hset_ne (by omega), hset_ne (by omega), hset_ne (by omega), hset_ne (by omega), hset_ne (by omega)]
variable {h : Hp}
theorem C_twoP (c : Ctx h n x y thr hun rea hid flt) {p q : Nat} {w : Int32} (hp : p < n) (hl1 : l1 < 4) (hq : q < n) (hl2 : l2 < 4) (hpq : p ≠ q) (hw : ¬ w < 0 ∧ w ≤ 2) : Ans (f_C_two (nI p) (nI l1) (nI q) (nI l2) w) (twoV x y n hun thr hid p l1 q l2 w) h := by
  have hn := c.1.1
  have ht := c.1.2.2.1
  unfold Ans f_C_two
  rw [C_can c, inN_nI hp (by omega), inN_nI hl1 (by omega), bnd_some, if_neg (by decide), C_can c, inN_nI hq (by omega), inN_nI hl2 (by omega), bnd_some, if_neg (by decide), if_neg (fun z => hpq (nI_inj (by omega) (by omega) z)), if_neg hw.1, if_pos hw.2, C_isHidden c (by omega), bnd_some]
  unfold twoV
  cases hb : bt hid p with
  | true => exact ⟨h, by rw [if_neg (by decide), if_pos rfl], Same.rf h⟩
  | false =>
    rw [if_pos (show (if false = true then (1 : Int32) else 0) = 0 by decide), if_neg (show ¬ false = true by decide), C_isHidden c (by omega), bnd_some]
    cases hb2 : bt hid q with
    | true => exact ⟨h, by rw [if_neg (by decide), if_pos rfl], Same.rf h⟩
    | false =>
      rw [if_pos (show (if false = true then (1 : Int32) else 0) = 0 by decide), if_neg (show ¬ false = true by decide)]
      obtain ⟨h1, a1, a2, a3, a4⟩ := start_at (a := 15) (p := p) (l := l1) (t := thr) (h := h)
      have s1 := Same.sp (Or.inl rfl) a4
      have c1 := c.same s1
      obtain ⟨h2, b1, b2, b3, b4⟩ := start_at (a := 17) (p := q) (l := l2) (t := thr) (h := h1)
      have s2 := Same.sp (Or.inr (Or.inl rfl)) b4
      have c2 := c1.same s2
      have S1 : SpR h2 15 ([] ++ [p]) 0 thr := by unfold SpR; rw [b4 15 (by omega) (by omega), b4 (15 + 1) (by omega) (by omega)]; exact a2
      have hc := alw_cnt (hid := hid) hn hp hq hpq
      obtain ⟨h3, d1, d2, d3, d4⟩ := C_twoL hl1 hl2 30 0 FUEL (alw n hid p q) [] [] p q 0 0 thr thr (-1) 0 h2 c2 (by omega) (show 30 < 5000 by omega) (by omega) (by omega) hp hq (show 0 + 1 + (0 + 1) + _ ≤ 10 by omega) (by omega) (by omega) S1 b2 (by rw [b4 15 (by omega) (by omega)]; exact a3) b3
      have es : f_C_stepInTurn 15 17 h2 = some ((tw x y n hun l1 l2 30 0 (alw n hid p q) p q thr thr 1 1 (-1) 0).2.2, h3) := by
        unfold f_C_stepInTurn f_Fr_all
        rw [bnd_some, Sp_here S1 (by decide), bnd_some, Sp_here b2 (by decide), bnd_some, c2.2.1.1, c2.2.1.2.2.1]
        exact d1
      refine ⟨h3, ?_, (s1.tr s2).tr d4⟩
      rw [chk40, show ∀ o : Option (Int32 × Hp), chk 4 1 o = o from fun o => rfl, c.2.1.2.2.2.1, a1, bnd_some, c1.2.1.2.2.2.1, b1, bnd_some, es, bnd_some, d2, d3]
      unfold twR
      split
      · rfl
      · split <;> rfl
theorem M_twoOf (c : Ctx h n x y thr hun rea hid flt) (hM : MP h n x y) {p q : Nat} (w : Int32) (hp : p < n) (hl1 : l1 < 4) (hq : q < n) (hl2 : l2 < 4) (hpq : p ≠ q) : AnsM n x y (f_M_twoOf (nI p) (nI l1) (nI q) (nI l2) w) (twoV x y n hun thr hid p l1 q l2 w) h := by
  have hn := c.1.1
  have ht := c.1.2.2.1
  unfold AnsM f_M_twoOf
  rw [M_isHidden c (by omega), bnd_some]
  unfold twoV
  cases hb : bt hid p with
  | true => exact ⟨h, by rw [if_neg (by decide), if_pos rfl], Same.rf h, hM⟩
  | false =>
    rw [if_pos (show (if false = true then (1 : Int32) else 0) = 0 by decide), if_neg (show ¬ false = true by decide), M_isHidden c (by omega), bnd_some]
    cases hb2 : bt hid q with
    | true => exact ⟨h, by rw [if_neg (by decide), if_pos rfl], Same.rf h, hM⟩
    | false =>
      have hc := alw_cnt (hid := hid) hn hp hq hpq
      have k1 := M_twoL hl1 hl2 (w := w) c hM 30 0 FUEL (alw n hid p q) p q thr thr 1 1 (-1) 0 (show 30 < 5000 by omega) (by omega) (by omega) hp hq (by omega) (by omega) (alw_bt hn hp hq hp (Or.inl rfl)) (alw_bt hn hp hq hq (Or.inr rfl))
      rw [if_pos (show (if false = true then (1 : Int32) else 0) = 0 by decide), if_neg (show ¬ false = true by decide), hM.1, c.2.2.1.1, c.2.2.1.2.1]
      exact ⟨h, k1, Same.rf h, hM⟩
end TW
theorem op_two (x1 x2 x3 x4 x5 : Int32) : OpOK Rel (f_C_two x1 x2 x3 x4 x5) (f_M_two x1 x2 x3 x4 x5) := by
  refine op_of (fun h n x y thr hun rea hid flt c => ?_)
  have hn := c.1.1
  by_cases hb : (inN x1 n && inN x2 4) = true
  · obtain ⟨b1, b2⟩ := Bool.and_eq_true_iff.mp hb
    obtain ⟨p, hp, rfl⟩ := inN_ex b1 (by omega)
    obtain ⟨l, hl, rfl⟩ := inN_ex b2 (by omega)
    by_cases hb' : (inN x3 n && inN x4 4) = true
    · obtain ⟨b3, b4⟩ := Bool.and_eq_true_iff.mp hb'
      obtain ⟨q, hq, rfl⟩ := inN_ex b3 (by omega)
      obtain ⟨l', hl', rfl⟩ := inN_ex b4 (by omega)
      by_cases hpq : p = q
      · subst hpq
        refine ⟨-2, ⟨h, ?_, Same.rf h⟩, fun g cg => ?_⟩
        · unfold f_C_two
          rw [C_can c, hb, bnd_some, if_neg (by decide), C_can c, hb', bnd_some, if_neg (by decide), if_pos rfl]
        · obtain ⟨h1, g1, g2, g3, g4⟩ := M_isWeb cg (nI p) (nI l)
          obtain ⟨h2, k1, k2, k3, k4⟩ := M_isWeb g4 (nI p) (nI l')
          refine ⟨h2, ?_, g2.tr k2⟩
          unfold f_M_two
          rw [g1, hb, bnd_some, if_neg (by decide), k1, hb', bnd_some, if_neg (by decide), if_pos rfl]
      · have ne : ¬ nI p = nI q := fun z => hpq (nI_inj (by omega) (by omega) z)
        by_cases h5 : inN x5 3 = true
        · refine ⟨_, C_twoP c hp hl hq hl' hpq ((inN_le x5).mpr h5), fun g cg => ?_⟩
          obtain ⟨h1, g1, g2, g3, g4⟩ := M_isWeb cg (nI p) (nI l)
          obtain ⟨h2, k1, k2, k3, k4⟩ := M_isWeb g4 (nI q) (nI l')
          obtain ⟨h6, f1, f2, f3⟩ := M_twoOf k4 k3 x5 hp hl hq hl' hpq
          refine ⟨h6, ?_, (g2.tr k2).tr f2⟩
          unfold f_M_two
          rw [g1, hb, bnd_some, if_neg (by decide), k1, hb', bnd_some, if_neg (by decide), if_neg ne, show f_M_in x5 0 2 h2 = _ from in_lit x5 (n := 2) (by omega) h2, h5, bnd_some, if_neg (by decide), f1, bnd_some]
        · refine ⟨-2, ⟨h, ?_, Same.rf h⟩, fun g cg => ?_⟩
          · unfold f_C_two
            rw [C_can c, hb, bnd_some, if_neg (by decide), C_can c, hb', bnd_some, if_neg (by decide), if_neg ne]
            by_cases q0 : x5 < 0
            · rw [if_pos q0]
            · rw [if_neg q0, if_neg (show ¬ x5 ≤ 2 from fun z => h5 ((inN_le x5).mp ⟨q0, z⟩))]
          · obtain ⟨h1, g1, g2, g3, g4⟩ := M_isWeb cg (nI p) (nI l)
            obtain ⟨h2, k1, k2, k3, k4⟩ := M_isWeb g4 (nI q) (nI l')
            refine ⟨h2, ?_, g2.tr k2⟩
            unfold f_M_two
            rw [g1, hb, bnd_some, if_neg (by decide), k1, hb', bnd_some, if_neg (by decide), if_neg ne, show f_M_in x5 0 2 h2 = _ from in_lit x5 (n := 2) (by omega) h2, bnd_some, if_neg h5, if_pos rfl]
    · refine ⟨-2, ⟨h, ?_, Same.rf h⟩, fun g cg => ?_⟩
      · unfold f_C_two
        rw [C_can c, hb, bnd_some, if_neg (by decide), C_can c, bnd_some, if_neg hb', if_pos rfl]
      · obtain ⟨h1, g1, g2, g3, g4⟩ := M_isWeb cg (nI p) (nI l)
        obtain ⟨h2, k1, k2, k3, k4⟩ := M_isWeb g4 x3 x4
        refine ⟨h2, ?_, g2.tr k2⟩
        unfold f_M_two
        rw [g1, hb, bnd_some, if_neg (by decide), k1, bnd_some, if_neg hb', if_pos rfl]
  · refine ⟨-2, ⟨h, ?_, Same.rf h⟩, fun g cg => ?_⟩
    · unfold f_C_two
      rw [C_can c, bnd_some, if_neg hb, if_pos rfl]
    · obtain ⟨h1, g1, g2, g3, g4⟩ := M_isWeb cg x1 x2
      refine ⟨h1, ?_, g2⟩
      unfold f_M_two
      rw [g1, bnd_some, if_neg hb, if_pos rfl]
