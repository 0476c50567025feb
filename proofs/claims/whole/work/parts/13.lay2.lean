/-! PURE: the class's lay -/
theorem hrow (h : Hp) (a k : Nat) (v : Int32) : hset h a k v a = upd (h a) k v := by simp [hset]
theorem Sp_here {h : Hp} {a t way left : Nat} {R : List Nat} (hR : SpR h a (R ++ [t]) way left) (hl : R.length < 10) : f_Sp_here a h = some (nI t, h) := by
  obtain ⟨h1, h2, -, -⟩ := hR
  have hz : h a 1 = nI (R.length + 1) := by rw [h1]; simp
  unfold f_Sp_here
  rw [hz, if_neg (nI_nle (by omega) (by omega)), nI_pred, chk_nI hl (by omega), ix_nI (by omega), h2 R.length t (by simp)]
theorem Sp_goOn {h : Hp} {a t far hun way left : Nat} {R : List Nat} (hR : SpR h a R way left) (hl : R.length < 10) (hf : far ≤ 18) (hh : hun ≤ 9) (hle : left ≤ 200) (hw : way ≤ 200) :
    if far + hun ≤ left then ∃ h', f_Sp_goOn a (nI t) (nI far) (nI hun) h = some (1, h') ∧ SpR h' a (R ++ [t]) (way + far) (left - (far + hun)) ∧ ∀ b, b ≠ a → b ≠ a + 1 → h' b = h b
    else f_Sp_goOn a (nI t) (nI far) (nI hun) h = some (0, h) := by
  obtain ⟨h1, h2, h3, h4⟩ := hR
  have e10 : ¬ (10 : Int32) ≤ nI R.length := nI_ge (b := 10) hl (by omega)
  unfold f_Sp_goOn
  rw [h1, if_neg e10, h4, nI_add]
  by_cases hc : far + hun ≤ left
  · rw [if_pos hc, if_pos (nI_le hc (by omega)), chk_nI hl (by omega), ix_nI (by omega)]
    refine ⟨_, rfl, ⟨?_, ?_, ?_, ?_⟩, fun b hb1 hb2 => ?_⟩
    · simp [hset_app, h1, nI_1]
    · have e : ∀ u v w : Int32, (hset (hset (hset (hset h (a + 1) R.length (nI t)) a 1 u) a 3 v) a 4 w) (a + 1) = upd (h (a + 1)) R.length (nI t) := by
        intro u v w
        rw [hset_off (by omega), hset_off (by omega), hset_off (by omega), hrow]
      rw [e]
      exact h2.push
    · simp [hset_app, h3, nI_add]
    · simp only [hset_app]
      simp [h4, pk_sub hc]
    · rw [hset_off hb1, hset_off hb1, hset_off hb1, hset_off hb2]
  · rw [if_neg hc, if_neg (nI_ge (by omega) (by omega))]
theorem lay_loop {a1 a2 n law hun : Nat} {x y : Nat → Nat} (hn : n ≤ 10) (hl : law < 4) (hh : hun ≤ 9) (hD : ∀ i, i < n → x i < 10 ∧ y i < 10) (ha : a1 ≠ 0 ∧ a1 ≠ a2 ∧ a1 ≠ a2 + 1 ∧ a1 ≠ a2 + 2 ∧ a1 + 1 ≠ a2 ∧ a1 + 1 ≠ a2 + 1 ∧ a1 + 1 ≠ a2 + 2) :
    ∀ (j k : Nat) (R : List Nat) (t : Nat) (f : Int32) (way left : Nat) (h : Hp) (m : Nat), R.length + 1 = k → k + j = n → j < m → t < n → SpR h a1 (R ++ [t]) way left → left ≤ 200 → way + left ≤ 200 → PtR (h (a2 + 1)) (h (a2 + 2)) n x y → h a2 2 = nI n → h 0 9 = nI hun →
    ∃ h', l_C_lay_31 m a1 a2 (nI law) f (nI k) h = some (a1, h') ∧ SpR h' a1 (R ++ t :: layS x y law n hun j t (bt f) left) (way + wayL x y t (layS x y law n hun j t (bt f) left)) (left - (wayL x y t (layS x y law n hun j t (bt f) left) + hun * (layS x y law n hun j t (bt f) left).length)) ∧ (∀ b, b ≠ a1 → b ≠ a1 + 1 → h' b = h b) := by
  intro j
  induction j with
  | zero =>
    intro k R t f way left h m hk hkn hm ht hR hle hwl hP hs hu
    obtain ⟨m, rfl⟩ : ∃ m', m = m' + 1 := ⟨m - 1, by omega⟩
    rw [l_C_lay_31, hs, if_pos (nI_le (by omega) (by omega))]
    exact ⟨h, rfl, hR, fun _ _ _ => rfl⟩
  | succ j ih =>
    intro k R t f way left h m hk hkn hm ht hR hle hwl hP hs hu
    obtain ⟨m, rfl⟩ : ∃ m', m = m' + 1 := ⟨m - 1, by omega⟩
    have hhere := Sp_here hR (by omega)
    rw [l_C_lay_31, hs, if_neg (nI_ge (by omega) (by omega)), hhere, bnd_some, Fr_choose hP hs hn hl ht, bnd_some, layS]
    show ∃ h', _ ∧ _
    unfold nx
    cases hsel : sel (rkC x y law t) (bt f) n with
    | none =>
      dsimp only
      rw [if_pos (show enc none = -1 from rfl)]
      exact ⟨h, rfl, by simpa [wayL] using hR, fun _ _ _ => rfl⟩
    | some q =>
      obtain ⟨hq, hfq⟩ := sel_in hsel
      rw [show enc (some q) = nI q from rfl]
      dsimp only
      have b1 := hD t ht
      have b2 := hD q hq
      have hf := farN_lt (x := x) (y := y) (p := t) (q := q) b1.1 b2.1 b1.2 b2.2
      rw [if_neg (m1_ne (k := q) (by omega)), hhere, bnd_some, Fr_apart hP hn ht hq, bnd_some, hu]
      have hgo := Sp_goOn (t := q) hR (by simp; omega) hf hh hle (by omega)
      by_cases hc : farN x y t q + hun ≤ left
      · rw [if_pos hc] at hgo
        obtain ⟨h1, e1, hR1, hfr1⟩ := hgo
        rw [e1, bnd_some, if_neg (by decide), nI_1, if_pos hc]
        have hR1' : SpR h1 a1 ((R ++ [t]) ++ [q]) (way + farN x y t q) (left - (farN x y t q + hun)) := hR1
        have g1 : h1 (a2 + 1) = h (a2 + 1) := hfr1 _ (by omega) (by omega)
        have g2 : h1 (a2 + 2) = h (a2 + 2) := hfr1 _ (by omega) (by omega)
        have g3 : h1 a2 = h a2 := hfr1 _ (by omega) (by omega)
        have g4 : h1 0 = h 0 := hfr1 _ (by omega) (by omega)
        obtain ⟨h2, e2, hR2, hfr2⟩ := ih (k + 1) (R ++ [t]) q (f &&& (((1 : Int32) <<< (nI q &&& 31)) ^^^ (-1))) _ _ h1 m (by simp; omega) (by omega) (by omega) hq hR1' (by omega) (by omega) (by rw [g1, g2]; exact hP) (by rw [g3]; exact hs) (by rw [g4]; exact hu)
        rw [layS_congr j q _ _ _ (del_bt hq (by omega))] at hR2
        refine ⟨h2, e2, ?_, fun b hb1 hb2 => by rw [hfr2 b hb1 hb2, hfr1 b hb1 hb2]⟩
        rw [List.append_assoc] at hR2
        simp only [wayL, List.length_cons]
        have ew : ∀ w : Nat, way + farN x y t q + w = way + (farN x y t q + w) := fun w => by omega
        have el : ∀ w l : Nat, left - (farN x y t q + hun) - (w + hun * l) = left - (farN x y t q + w + hun * (l + 1)) := fun w l => by
          rw [Nat.mul_add, Nat.mul_one]; omega
        rw [ew, el] at hR2
        exact hR2
      · rw [if_neg hc] at hgo
        rw [hgo, bnd_some, if_pos rfl, if_neg hc]
        exact ⟨h, rfl, by simpa [wayL] using hR, fun _ _ _ => rfl⟩
/-- which pegs are free at first -/
def fr0 (n peg : Nat) (wo : Int32) : Nat → Bool := fun p => decide (p < n) && (!bt wo p && !decide (p = peg))
def webL (x y : Nat → Nat) (n hun thr law peg : Nat) (wo : Int32) : List Nat := layS x y law n hun (n - 1) peg (fr0 n peg wo) thr
theorem fr0_bt {n peg : Nat} {wo : Int32} (hn : n ≤ 11) (hp : peg < n) : ∀ p, p < n → bt (((((1 : Int32) <<< (nI n &&& 31)) - 1) &&& (wo ^^^ (-1))) &&& (((1 : Int32) <<< (nI peg &&& 31)) ^^^ (-1))) p = fr0 n peg wo p := by
  intro p hpn
  rw [bt_del _ (by omega) (by omega), bt_and, bt_all n (by omega) p (by omega), bt_not _ (by omega)]
  unfold fr0
  rw [Bool.and_assoc]
theorem C_lay {a1 a2 n law hun thr peg : Nat} {x y : Nat → Nat} {wo : Int32} {h : Hp} (hn : n ≤ 10) (hl : law < 4) (hh : hun ≤ 9) (ht : thr ≤ 200) (hD : ∀ i, i < n → x i < 10 ∧ y i < 10) (hp : peg < n)
    (ha : a1 ≠ 0 ∧ a1 ≠ a2 ∧ a1 ≠ a2 + 1 ∧ a1 ≠ a2 + 2 ∧ a1 + 1 ≠ a2 ∧ a1 + 1 ≠ a2 + 1 ∧ a1 + 1 ≠ a2 + 2) (hP : PtR (h (a2 + 1)) (h (a2 + 2)) n x y) (hs : h a2 2 = nI n) (hu : h 0 9 = nI hun) (hth : h 0 8 = nI thr) :
    ∃ h', f_C_lay a1 a2 (nI peg) (nI law) wo h = some (a1, h') ∧ SpR h' a1 (peg :: webL x y n hun thr law peg wo) (wayL x y peg (webL x y n hun thr law peg wo)) (thr - (wayL x y peg (webL x y n hun thr law peg wo) + hun * (webL x y n hun thr law peg wo).length)) ∧ (∀ b, b ≠ a1 → b ≠ a1 + 1 → h' b = h b) := by
  unfold f_C_lay f_Sp_startAt f_Fr_all
  rw [show chk 10 0 (some ((), hset (hset (hset (hset (hset h (a1 + 1) (ix 0) (nI peg)) a1 1 1) a1 2 (nI law)) a1 3 0) a1 4 (h 0 8))) = some ((), hset (hset (hset (hset (hset h (a1 + 1) 0 (nI peg)) a1 1 1) a1 2 (nI law)) a1 3 0) a1 4 (h 0 8)) from rfl, bnd_some, bnd_some]
  generalize hh1 : hset (hset (hset (hset (hset h (a1 + 1) 0 (nI peg)) a1 1 1) a1 2 (nI law)) a1 3 0) a1 4 (h 0 8) = h1
  have hfr1 : ∀ b, b ≠ a1 → b ≠ a1 + 1 → h1 b = h b := fun b hb1 hb2 => by rw [← hh1, hset_off hb1, hset_off hb1, hset_off hb1, hset_off hb1, hset_off hb2]
  have g1 : h1 (a2 + 1) = h (a2 + 1) := hfr1 _ (by omega) (by omega)
  have g2 : h1 (a2 + 2) = h (a2 + 2) := hfr1 _ (by omega) (by omega)
  have g3 : h1 a2 = h a2 := hfr1 _ (by omega) (by omega)
  have g4 : h1 0 = h 0 := hfr1 _ (by omega) (by omega)
  have hR1 : SpR h1 a1 ([] ++ [peg]) 0 thr := by
    refine ⟨?_, ?_, ?_, ?_⟩
    · rw [← hh1]; simp [hset_app]; rfl
    · intro i t hi
      cases i with
      | zero => simp at hi; rw [← hh1]; simp [hset_app, hi]
      | succ i => simp at hi
    · rw [← hh1]; simp [hset_app]; rfl
    · rw [← hh1]; simp [hset_app, hth]
  rw [g3, hs]
  obtain ⟨h2, e2, hR2, hfr2⟩ := lay_loop hn hl hh hD ha (n - 1) 1 [] peg ((((((1 : Int32) <<< (nI n &&& 31)) - 1) &&& (wo ^^^ (-1))) &&& (((1 : Int32) <<< (nI peg &&& 31)) ^^^ (-1)))) 0 thr h1 FUEL rfl (by omega) (by unfold FUEL; omega) hp hR1 ht (by omega) (by rw [g1, g2]; exact hP) (by rw [g3]; exact hs) (by rw [g4]; exact hu)
  rw [layS_congr _ peg _ _ _ (fr0_bt (by omega) hp)] at hR2
  refine ⟨h2, e2, ?_, fun b hb1 hb2 => by rw [hfr2 b hb1 hb2, hfr1 b hb1 hb2]⟩
  unfold webL
  simpa using hR2
