/-! PURE: the reference's lays -/
def mfr (h h' : Hp) : Prop := (∀ b, b ≠ 31 → b ≠ 35 → h' b = h b) ∧ ∀ k, k ≠ 10 → k ≠ 11 → k ≠ 12 → h' 31 k = h 31 k
theorem mfr.rf (h : Hp) : mfr h h := ⟨fun _ _ _ => rfl, fun _ _ _ _ => rfl⟩
theorem mfr.tr {a b c : Hp} (h1 : mfr a b) (h2 : mfr b c) : mfr a c := ⟨fun q g1 g2 => (h2.1 q g1 g2).trans (h1.1 q g1 g2), fun k g1 g2 g3 => (h2.2 k g1 g2 g3).trans (h1.2 k g1 g2 g3)⟩
theorem lays_step {law hun far way left q t K : Nat} {f : Int32} {h : Hp} (m : Nat) (hK : h 31 10 = nI (K + 1)) (hKl : K + 1 < 11) (hrow : h 35 K = nI t) (hway : h 31 11 = nI way) (hleft : h 31 12 = nI left) (hhun : h 31 7 = nI hun) (hq : q < 2 ^ 31) (hle : left ≤ 200) (hf : far ≤ 18) (hu : hun ≤ 9)
    (hfar : ∀ h2 : Hp, mfr h h2 → f_M_farOf (nI t) (nI q) h2 = some (nI far, h2)) :
    l_M_lays_55 (m + 1) (nI law) f (nI q) h = if far + hun ≤ left then bnd (f_M_nextOf (nI q) (nI law) (f &&& (((1 : Int32) <<< (nI q &&& 31)) ^^^ (-1))) (hset (hset (hset (hset h 31 11 (nI (way + far))) 31 12 (nI (left - (far + hun)))) 35 (K + 1) (nI q)) 31 10 (nI (K + 2)))) fun r6 h6 => l_M_lays_55 m (nI law) (f &&& (((1 : Int32) <<< (nI q &&& 31)) ^^^ (-1))) r6 h6 else some ((), h) := by
  rw [l_M_lays_55, if_neg (m1_ne hq), hK, nI_pred, chk_nI (by omega) (by omega), ix_nI (by omega), hrow, hfar h (mfr.rf h), bnd_some, hleft, hhun, nI_add]
  by_cases hc : far + hun ≤ left
  · rw [if_neg (nI_nlt hc (by omega)), if_pos hc, hK, nI_pred, chk_nI (by omega) (by omega), ix_nI (by omega), hrow, hfar h (mfr.rf h), bnd_some, hway, nI_add]
    have e1 : ∀ v, hset h 31 11 v 31 12 = nI left := fun v => by rw [hset_ne (by omega), hleft]
    have e2 : ∀ v, hset h 31 11 v 31 7 = nI hun := fun v => by rw [hset_ne (by omega), hhun]
    rw [e1, e2, nI_add, pk_sub hc]
    have e3 : ∀ v w, hset (hset h 31 11 v) 31 12 w 31 10 = nI (K + 1) := fun v w => by rw [hset_ne (by omega), hset_ne (by omega), hK]
    rw [e3, chk_nI hKl (by omega), ix_nI (by omega)]
    have e4 : ∀ v w z, hset (hset (hset h 31 11 v) 31 12 w) 35 (K + 1) z 31 10 = nI (K + 1) := fun v w z => by rw [hset_ne (by omega), e3]
    rw [e4, nI_1]
  · rw [if_pos (nI_lt (by omega) (by omega)), if_neg hc]
theorem lays_loop {n law hun : Nat} {x y : Nat → Nat} (hn : n ≤ 10) (hl : law < 4) (hh : hun ≤ 9) (hD : Dist n x y) :
    ∀ (j : Nat) (R : List Nat) (t : Nat) (f : Int32) (way left : Nat) (h : Hp) (m : Nat), cnt (bt f) n ≤ j → R.length + 1 + cnt (bt f) n ≤ n → j < m → t < n → bt f t = false → MR h (R ++ [t]) way left → left ≤ 200 → way + left ≤ 200 → PtR (h 33) (h 34) n x y → h 31 2 = nI n → h 31 7 = nI hun →
    ∃ h', l_M_lays_55 m (nI law) f (enc (sel (rkM x y law t) (bt f) n)) h = some ((), h') ∧ MR h' (R ++ t :: layS x y law n hun j t (bt f) left) (way + wayL x y t (layS x y law n hun j t (bt f) left)) (left - (wayL x y t (layS x y law n hun j t (bt f) left) + hun * (layS x y law n hun j t (bt f) left).length)) ∧ mfr h h' := by
  intro j
  induction j with
  | zero =>
    intro R t f way left h m hc0 hb hm ht hft hR hle hwl hP hs hu
    obtain ⟨m, rfl⟩ : ∃ m', m = m' + 1 := ⟨m - 1, by omega⟩
    cases hsel : sel (rkM x y law t) (bt f) n with
    | none =>
      rw [l_M_lays_55, if_pos (show enc none = -1 from rfl)]
      exact ⟨h, rfl, hR, mfr.rf h⟩
    | some q =>
      obtain ⟨hq, hfq⟩ := sel_in hsel
      have := cnt_pos hfq hq
      omega
  | succ j ih =>
    intro R t f way left h m hc0 hb hm ht hft hR hle hwl hP hs hu
    obtain ⟨m, rfl⟩ : ∃ m', m = m' + 1 := ⟨m - 1, by omega⟩
    rw [sel_M hD hn hl ht hft, layS]
    unfold nx
    cases hsel : sel (rkC x y law t) (bt f) n with
    | none =>
      dsimp only
      rw [l_M_lays_55, if_pos (show enc none = -1 from rfl)]
      exact ⟨h, rfl, by simpa [wayL] using hR, mfr.rf h⟩
    | some q =>
      obtain ⟨hq, hfq⟩ := sel_in hsel
      rw [show enc (some q) = nI q from rfl]
      dsimp only
      have b1 := hD.1 t ht
      have b2 := hD.1 q hq
      have hf := farN_lt (x := x) (y := y) (p := t) (q := q) b1.1 b2.1 b1.2 b2.2
      obtain ⟨r1, r2, r3, r4⟩ := id hR
      have hcd := cnt_del hfq hq
      rw [lays_step (K := R.length) (far := farN x y t q) (way := way) (left := left) (hun := hun) (t := t) m (by rw [r1]; simp) (by omega) (r2 R.length t (by simp)) r3 r4 hu (by omega) hle hf hh (fun h2 hm2 => M_farOf (by rw [hm2.1 33 (by decide) (by decide), hm2.1 34 (by decide) (by decide)]; exact hP) (by omega) ht hq)]
      by_cases hc : farN x y t q + hun ≤ left
      · rw [if_pos hc, if_pos hc]
        generalize hh1 : hset (hset (hset (hset h 31 11 (nI (way + farN x y t q))) 31 12 (nI (left - (farN x y t q + hun)))) 35 (R.length + 1) (nI q)) 31 10 (nI (R.length + 2)) = h1
        have hm1 : mfr h h1 := by
          refine ⟨fun b hb1 hb2 => ?_, fun k k1 k2 k3 => ?_⟩
          · rw [← hh1, hset_off hb1, hset_off hb2, hset_off hb1, hset_off hb1]
          · rw [← hh1, hset_ne (by omega), hset_ne (by omega), hset_ne (by omega), hset_ne (by omega)]
        have hR1 : MR h1 ((R ++ [t]) ++ [q]) (way + farN x y t q) (left - (farN x y t q + hun)) := by
          refine ⟨?_, ?_, ?_, ?_⟩
          · rw [← hh1, hset_eq]; simp
          · have e : h1 35 = upd (h 35) (R ++ [t]).length (nI q) := by
              rw [← hh1, hset_off (by omega), hrow, hset_off (by omega), hset_off (by omega)]; simp
            rw [e]; exact r2.push
          · rw [← hh1, hset_ne (by omega), hset_ne (by omega), hset_ne (by omega), hset_eq]
          · rw [← hh1, hset_ne (by omega), hset_ne (by omega), hset_eq]
        have hP1 : PtR (h1 33) (h1 34) n x y := by rw [hm1.1 33 (by decide) (by decide), hm1.1 34 (by decide) (by decide)]; exact hP
        have hs1 : h1 31 2 = nI n := by rw [hm1.2 2 (by decide) (by decide) (by decide)]; exact hs
        have hu1 : h1 31 7 = nI hun := by rw [hm1.2 7 (by decide) (by decide) (by decide)]; exact hu
        rw [M_nextOf hP1 hs1 (by omega) hl hq, bnd_some]
        have hdb := del_bt (f := f) hq (by omega : n ≤ 11)
        have hcn : cnt (bt (f &&& (((1 : Int32) <<< (nI q &&& 31)) ^^^ (-1)))) n = cnt (del (bt f) q) n := cnt_congr hdb
        obtain ⟨h2, e2, hR2, hm2⟩ := ih (R ++ [t]) q (f &&& (((1 : Int32) <<< (nI q &&& 31)) ^^^ (-1))) _ _ h1 m (by omega) (by simp only [List.length_append, List.length_cons, List.length_nil]; omega) (by omega) hq (by rw [hdb q hq]; simp [del]) hR1 (by omega) (by omega) hP1 hs1 hu1
        rw [layS_congr j q _ _ _ hdb] at hR2
        refine ⟨h2, e2, ?_, hm1.tr hm2⟩
        rw [List.append_assoc] at hR2
        simp only [wayL, List.length_cons]
        have ew : ∀ w : Nat, way + farN x y t q + w = way + (farN x y t q + w) := fun w => by omega
        have el : ∀ w l : Nat, left - (farN x y t q + hun) - (w + hun * l) = left - (farN x y t q + w + hun * (l + 1)) := fun w l => by
          rw [Nat.mul_add, Nat.mul_one]; omega
        rw [ew, el] at hR2
        exact hR2
      · rw [if_neg hc, if_neg hc]
        exact ⟨h, rfl, by simpa [wayL] using hR, mfr.rf h⟩
theorem M_lays {n law hun thr peg : Nat} {x y : Nat → Nat} {wo : Int32} {h : Hp} (hn : n ≤ 10) (hl : law < 4) (hh : hun ≤ 9) (ht : thr ≤ 200) (hD : Dist n x y) (hp : peg < n) (hP : PtR (h 33) (h 34) n x y) (hs : h 31 2 = nI n) (hu : h 31 7 = nI hun) (hth : h 31 6 = nI thr) :
    ∃ h', f_M_lays (nI peg) (nI law) wo h = some ((), h') ∧ MR h' (peg :: webL x y n hun thr law peg wo) (wayL x y peg (webL x y n hun thr law peg wo)) (thr - (wayL x y peg (webL x y n hun thr law peg wo) + hun * (webL x y n hun thr law peg wo).length)) ∧ mfr h h' := by
  unfold f_M_lays
  rw [show ∀ o : Option (Unit × Hp), chk 11 0 o = o from fun o => rfl, show ix 0 = 0 from rfl, hs]
  rw [show (hset (hset (hset h 35 0 (nI peg)) 31 10 1) 31 11 0) 31 6 = nI thr by rw [hset_ne (by omega), hset_ne (by omega), hset_ne (by omega), hth]]
  generalize hh1 : hset (hset (hset (hset h 35 0 (nI peg)) 31 10 1) 31 11 0) 31 12 (nI thr) = h1
  have hm1 : mfr h h1 := by
    refine ⟨fun b hb1 hb2 => ?_, fun k k1 k2 k3 => ?_⟩
    · rw [← hh1, hset_off hb1, hset_off hb1, hset_off hb1, hset_off hb2]
    · rw [← hh1, hset_ne (by omega), hset_ne (by omega), hset_ne (by omega), hset_ne (by omega)]
  have hR1 : MR h1 ([] ++ [peg]) 0 thr := by
    refine ⟨?_, ?_, ?_, ?_⟩
    · rw [← hh1, hset_ne (by omega), hset_ne (by omega), hset_eq]; rfl
    · intro i t hi
      cases i with
      | zero => simp at hi; rw [← hh1, hset_ne (by omega), hset_ne (by omega), hset_ne (by omega), hset_eq, hi]
      | succ i => simp at hi
    · rw [← hh1, hset_ne (by omega), hset_eq]; rfl
    · rw [← hh1, hset_eq]
  have hP1 : PtR (h1 33) (h1 34) n x y := by rw [hm1.1 33 (by decide) (by decide), hm1.1 34 (by decide) (by decide)]; exact hP
  have hs1 : h1 31 2 = nI n := by rw [hm1.2 2 (by decide) (by decide) (by decide)]; exact hs
  have hu1 : h1 31 7 = nI hun := by rw [hm1.2 7 (by decide) (by decide) (by decide)]; exact hu
  rw [M_nextOf hP1 hs1 (by omega) hl hp, bnd_some]
  have hfb := fr0_bt (wo := wo) (by omega : n ≤ 11) hp
  have hfp : bt (((((1 : Int32) <<< (nI n &&& 31)) - 1) &&& (wo ^^^ (-1))) &&& (((1 : Int32) <<< (nI peg &&& 31)) ^^^ (-1))) peg = false := by rw [hfb peg hp]; simp [fr0]
  have hct := cnt_lt hfp hp
  obtain ⟨h2, e2, hR2, hm2⟩ := lays_loop hn hl hh hD (n - 1) [] peg (((((1 : Int32) <<< (nI n &&& 31)) - 1) &&& (wo ^^^ (-1))) &&& (((1 : Int32) <<< (nI peg &&& 31)) ^^^ (-1))) 0 thr h1 FUEL (by omega) (by simp only [List.length_nil]; omega) (by unfold FUEL; omega) hp hfp hR1 ht (by omega) hP1 hs1 hu1
  rw [layS_congr _ peg _ _ _ hfb] at hR2
  refine ⟨h2, e2, ?_, hm1.tr hm2⟩
  unfold webL
  simpa using hR2
