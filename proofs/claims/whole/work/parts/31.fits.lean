/-! PURE: fits -/
def NCtx (h : Hp) (ns : Nat) (F T Q : Nat → Nat) : Prop := ns ≤ 8 ∧ h 10 3 = nI ns ∧ h 31 14 = nI ns ∧ ∀ i, i < ns → F i < 10 ∧ T i < 10 ∧ Q i < 10 ∧ h 11 i = nI (F i) ∧ h 12 i = nI (T i) ∧ h 13 i = nI (Q i) ∧ h 37 i = nI (F i) ∧ h 38 i = nI (T i) ∧ h 39 i = nI (Q i)
theorem NCtx.same {h g : Hp} {ns : Nat} {F T Q : Nat → Nat} (hs : Same h g) (c : NCtx h ns F T Q) : NCtx g ns F T Q := by
  unfold NCtx
  rw [hs 10 3 rfl, hs 31 14 rfl, hs.row 11 (scr_row rfl (by omega)), hs.row 12 (scr_row rfl (by omega)), hs.row 13 (scr_row rfl (by omega)), hs.row 37 (scr_row rfl (by omega)), hs.row 38 (scr_row rfl (by omega)), hs.row 39 (scr_row rfl (by omega))]
  exact c
theorem Rel.nctx {h : Hp} (hr : Rel h) : ∃ ns F T Q, NCtx h ns F T Q := by
  obtain ⟨-, -, ⟨r1, r2, r3, ns, r4, r5, r6, r7⟩, -⟩ := hr
  refine ⟨ns, fun i => ix (h 37 i), fun i => ix (h 38 i), fun i => ix (h 39 i), r4, r5, r6, fun i hi => ?_⟩
  obtain ⟨f, t, q, h1, h2, h3, h4, h5, h6, h7⟩ := r7 i hi
  rw [r1, r2, r3]
  dsimp only
  rw [h5, h6, h7, ix_nI (by omega), ix_nI (by omega), ix_nI (by omega)]
  exact ⟨h1, h3, h4, rfl, rfl, rfl, rfl, rfl, rfl⟩
theorem op_ofN {ρ : Type} {fc fm : Hp → Option (ρ × Hp)} (H : ∀ h n x y thr hun rea hid flt ns F T Q, Ctx h n x y thr hun rea hid flt → NCtx h ns F T Q → ∃ v, Ans fc v h ∧ ∀ g, Ctx g n x y thr hun rea hid flt → NCtx g ns F T Q → Ans fm v g) : OpOK Rel fc fm := by
  intro h hr
  obtain ⟨n, x, y, thr, hun, rea, hid, flt, c⟩ := hr.ctx
  obtain ⟨ns, F, T, Q, cn⟩ := hr.nctx
  obtain ⟨v, ⟨h1, e1, s1⟩, hm⟩ := H h n x y thr hun rea hid flt ns F T Q c cn
  obtain ⟨h2, e2, s2⟩ := hm h1 (c.same s1) (cn.same s1)
  exact ⟨v, h1, h2, e1, e2, hr.same (s1.tr s2)⟩
def allF (b : Nat → Bool) : Nat → Nat → Bool
  | 0, _ => true
  | c + 1, lo => b lo && allF b c (lo + 1)
def noteB (x y : Nat → Nat) (n hun thr : Nat) (hid : Int32) (F T Q : Nat → Nat) (l i : Nat) : Bool := decide (F i < n) && (!bt hid (F i) && (decide (T i < (rowP x y n hun thr hid (F i) l).length) && decide ((rowP x y n hun thr hid (F i) l).getD (T i) 0 = Q i)))
section FI
variable {n : Nat} {x y : Nat → Nat} {thr hun rea : Nat} {hid flt : Int32} {ns : Nat} {F T Q : Nat → Nat}
theorem C_note {h : Hp} (c : Ctx h n x y thr hun rea hid flt) (cn : NCtx h ns F T Q) {l k : Nat} (hl : l < 4) (hk : k < ns) (m : Nat) : ∃ h', l_C_comesOut_2 (m + 1) (nI l) (nI k) h = (if noteB x y n hun thr hid F T Q l k = true then l_C_comesOut_2 m (nI l) (nI (k + 1)) h' else some (0, h')) ∧ Same h h' := by
  have hn := c.1.1
  have hns := cn.1
  obtain ⟨q1, q2, q3, q4, q5, q6, -⟩ := cn.2.2.2 k hk
  rw [l_C_comesOut_2, cn.2.1, if_neg (nI_ge hk (by omega)), chk_nI (by omega) (by omega), ix_nI (by omega), q4, Fr_has _ c.2.1.1 hn, bnd_some]
  unfold noteB
  by_cases hf : F k < n
  · rw [inN_nI hf (by omega), if_neg (show ¬ (if true = true then (1 : Int32) else 0) = 0 by decide), C_isHidden c (by omega), bnd_some, decide_eq_true hf]
    cases hb : bt hid (F k) with
    | true => exact ⟨h, rfl, Same.rf h⟩
    | false =>
      obtain ⟨h', g1, g2, g3, g4⟩ := C_layS c (Or.inl rfl) hf hl hid
      have hl10 : (rowP x y n hun thr hid (F k) l).length ≤ 10 := Nat.le_trans (webL_len (x := x) (y := y) (hun := hun) (thr := thr) (l := l) (wo := hid) hn hf) hn
      have e1 : h' 12 k = nI (T k) := by rw [g3 12 (by omega) (by omega)]; exact q5
      have e2 : h' 13 k = nI (Q k) := by rw [g3 13 (by omega) (by omega)]; exact q6
      have e3 : h' 15 1 = nI (rowP x y n hun thr hid (F k) l).length := g2.1
      rw [if_pos (show (if false = true then (1 : Int32) else 0) = 0 by decide), chk40, c.2.1.2.2.1, g1, bnd_some, chk_nI (by omega) (by omega), e1, e2, e3, nI_1]
      refine ⟨h', ?_, g4⟩
      by_cases ht : T k < (rowP x y n hun thr hid (F k) l).length
      · have e4 : h' (15 + 1) (T k) = nI ((rowP x y n hun thr hid (F k) l).getD (T k) 0) := RowAt.at g2.2.1 ht
        have e5 := rowP_lt (x := x) (y := y) (hun := hun) (thr := thr) (l := l) (hid := hid) hf ht
        rw [if_neg (nI_ge ht (by omega)), chk_nI (by omega) (by omega), chk_nI (by omega) (by omega), ix_nI (by omega), e4, decide_eq_true ht]
        by_cases hq : (rowP x y n hun thr hid (F k) l).getD (T k) 0 = Q k
        · rw [decide_eq_true hq, hq, if_pos rfl]; rfl
        · rw [decide_eq_false hq, if_neg (fun w => hq (nI_inj (by omega) (by omega) w))]; rfl
      · rw [if_pos (nI_le (by omega) (by omega)), decide_eq_false ht]; rfl
  · have : inN (nI (F k)) n = false := by
      cases e : inN (nI (F k)) n with
      | false => rfl
      | true =>
        obtain ⟨j, hj, ej⟩ := inN_ex e (by omega)
        have := nI_inj (by omega) (by omega) ej
        omega
    rw [this, if_pos (show (if false = true then (1 : Int32) else 0) = 0 by decide), decide_eq_false hf]
    exact ⟨h, rfl, Same.rf h⟩
theorem C_comes {l : Nat} (hl : l < 4) : ∀ (j k m : Nat) (h : Hp), k + j = ns → j < m → Ctx h n x y thr hun rea hid flt → NCtx h ns F T Q → ∃ h', l_C_comesOut_2 m (nI l) (nI k) h = some (if allF (noteB x y n hun thr hid F T Q l) j k = true then 1 else 0, h') ∧ Same h h' := by
  intro j
  induction j with
  | zero =>
    intro k m h hk hm c cn
    obtain ⟨m, rfl⟩ : ∃ m', m = m' + 1 := ⟨m - 1, by omega⟩
    have : k = ns := by omega
    subst this
    have hns := cn.1
    exact ⟨h, by rw [l_C_comesOut_2, cn.2.1, if_pos (nI_le (Nat.le_refl _) (by omega))]; rfl, Same.rf h⟩
  | succ j ih =>
    intro k m h hk hm c cn
    obtain ⟨m, rfl⟩ : ∃ m', m = m' + 1 := ⟨m - 1, by omega⟩
    obtain ⟨h1, e1, s1⟩ := C_note c cn hl (show k < ns by omega) m
    rw [e1, allF]
    cases noteB x y n hun thr hid F T Q l k with
    | false => exact ⟨h1, rfl, s1⟩
    | true =>
      obtain ⟨h2, e2, s2⟩ := ih (k + 1) m h1 (by omega) (by omega) (c.same s1) (cn.same s1)
      exact ⟨h2, by rw [if_pos rfl, Bool.true_and]; exact e2, s1.tr s2⟩
theorem or0 (u : Int32) : u ||| 0 = u := by simp
theorem M_note {h : Hp} (c : Ctx h n x y thr hun rea hid flt) (hM : MP h n x y) (cn : NCtx h ns F T Q) {l k : Nat} (hl : l < 4) (hk : k < ns) (K : Int32 → Int32 → Hp → Option (Int32 × Hp)) (x2 : Int32) (m : Nat) : ∃ h', l_M_fitsNow_20 K (m + 1) x2 (nI l) 1 (nI k) h = l_M_fitsNow_20 K m x2 (nI l) (if noteB x y n hun thr hid F T Q l k = true then 1 else 0) (nI (k + 1)) h' ∧ Same h h' ∧ MP h' n x y := by
  have hn := c.1.1
  have hns := cn.1
  obtain ⟨q1, q2, q3, -, -, -, q4, q5, q6⟩ := cn.2.2.2 k hk
  rw [l_M_fitsNow_20, cn.2.2.1, if_neg (nI_ge hk (by omega)), if_neg (show ¬ (1 : Int32) = 0 by decide), chk_nI (by omega) (by omega), ix_nI (by omega), q4, hM.1, nI_1]
  unfold noteB
  by_cases hf : F k < n
  · rw [if_neg (nI_ge hf (by omega)), chk_nI (by omega) (by omega), M_isHidden c (by omega), bnd_some, decide_eq_true hf]
    cases hb : bt hid (F k) with
    | true => exact ⟨h, rfl, Same.rf h, hM⟩
    | false =>
      obtain ⟨h', g1, g2, g3, g4, g5, g6⟩ := M_layS c hM hf hl hid
      have hl10 : (rowP x y n hun thr hid (F k) l).length ≤ 10 := Nat.le_trans (webL_len (x := x) (y := y) (hun := hun) (thr := thr) (l := l) (wo := hid) hn hf) hn
      have e1 : h' 38 k = nI (T k) := by rw [g3.1 38 (by omega) (by omega)]; exact q5
      have e2 : h' 39 k = nI (Q k) := by rw [g3.1 39 (by omega) (by omega)]; exact q6
      have e3 : h' 31 10 = nI (rowP x y n hun thr hid (F k) l).length := g2.1
      rw [if_pos (show (if false = true then (1 : Int32) else 0) = 0 by decide), chk_nI (by omega) (by omega), q4, c.2.2.1.1, g1, bnd_some, chk_nI (by omega) (by omega), e1, e2, e3]
      refine ⟨h', ?_, g4, g5⟩
      by_cases ht : T k < (rowP x y n hun thr hid (F k) l).length
      · have e4 : h' 35 (T k) = nI ((rowP x y n hun thr hid (F k) l).getD (T k) 0) := RowAt.at g2.2.1 ht
        have e5 := rowP_lt (x := x) (y := y) (hun := hun) (thr := thr) (l := l) (hid := hid) hf ht
        rw [if_neg (nI_ge ht (by omega)), chk_nI (by omega) (by omega), chk_nI (by omega) (by omega), chk_nI (by omega) (by omega), ix_nI (by omega), e4, decide_eq_true ht]
        by_cases hq : (rowP x y n hun thr hid (F k) l).getD (T k) 0 = Q k
        · rw [decide_eq_true hq, hq, if_pos (show nI (Q k) = nI (Q k) from rfl)]; rfl
        · rw [decide_eq_false hq, if_neg (fun w => hq (nI_inj (by omega) (by omega) w))]; rfl
      · rw [if_pos (nI_le (by omega) (by omega)), decide_eq_false ht]; rfl
  · rw [if_pos (nI_le (by omega) (by omega)), decide_eq_false hf]
    exact ⟨h, rfl, Same.rf h, hM⟩
theorem M_fit0 (K : Int32 → Int32 → Hp → Option (Int32 × Hp)) (x2 x3 x5 : Int32) (m : Nat) (h : Hp) : l_M_fitsNow_20 K (m + 1) x2 x3 0 x5 h = K x2 (x3 + 1) h := by
  rw [l_M_fitsNow_20, if_pos (show (0 : Int32) = 0 from rfl), if_pos (show (0 : Int32) = 0 from rfl), or0, ite_self]
def fitS (x y : Nat → Nat) (n hun thr : Nat) (hid : Int32) (F T Q : Nat → Nat) (ns : Nat) (l : Nat) (s : Int32) : Int32 := if allF (noteB x y n hun thr hid F T Q l) ns 0 = true then s ||| ((1 : Int32) <<< (nI l &&& 31)) else s
theorem M_fit {l : Nat} (hl : l < 4) (K : Int32 → Int32 → Hp → Option (Int32 × Hp)) (x2 : Int32) : ∀ (j k m : Nat) (h : Hp), k + j = ns → j + 1 < m → Ctx h n x y thr hun rea hid flt → MP h n x y → NCtx h ns F T Q → ∃ h', l_M_fitsNow_20 K m x2 (nI l) 1 (nI k) h = K (if allF (noteB x y n hun thr hid F T Q l) j k = true then x2 ||| ((1 : Int32) <<< (nI l &&& 31)) else x2) (nI (l + 1)) h' ∧ Same h h' ∧ MP h' n x y := by
  intro j
  induction j with
  | zero =>
    intro k m h hk hm c hM cn
    obtain ⟨m, rfl⟩ : ∃ m', m = m' + 1 := ⟨m - 1, by omega⟩
    have : k = ns := by omega
    subst this
    have hns := cn.1
    exact ⟨h, by rw [l_M_fitsNow_20, cn.2.2.1, if_pos (nI_le (Nat.le_refl _) (by omega)), if_neg (show ¬ (1 : Int32) = 0 by decide), nI_1]; rfl, Same.rf h, hM⟩
  | succ j ih =>
    intro k m h hk hm c hM cn
    obtain ⟨m, rfl⟩ : ∃ m', m = m' + 1 := ⟨m - 1, by omega⟩
    obtain ⟨h1, e1, s1, M1⟩ := M_note c hM cn hl (show k < ns by omega) K x2 m
    rw [e1, allF]
    cases noteB x y n hun thr hid F T Q l k with
    | false =>
      obtain ⟨m, rfl⟩ : ∃ m', m = m' + 1 := ⟨m - 1, by omega⟩
      exact ⟨h1, by rw [if_neg (show ¬ false = true by decide), M_fit0, nI_1]; rfl, s1, M1⟩
    | true =>
      obtain ⟨h2, e2, s2, M2⟩ := ih (k + 1) m h1 (by omega) (by omega) (c.same s1) M1 (cn.same s1)
      exact ⟨h2, by rw [if_pos rfl, Bool.true_and]; exact e2, s1.tr s2, M2⟩
def fitV (x y : Nat → Nat) (n hun thr : Nat) (hid : Int32) (F T Q : Nat → Nat) (ns : Nat) : Int32 := itr (fitS x y n hun thr hid F T Q ns) 4 0 0
theorem C_fitsV {h : Hp} (c : Ctx h n x y thr hun rea hid flt) (cn : NCtx h ns F T Q) : Ans f_C_fits (fitV x y n hun thr hid F T Q ns) h := by
  have hns := cn.1
  unfold Ans f_C_fits fitV
  refine Exists.elim (itr_loop (F := fun m s i h => l_C_fits_4 m s i h) (I := fun g => Ctx g n x y thr hun rea hid flt ∧ NCtx g ns F T Q) (n := 4) (res := fun s : Int32 => s) (st := fitS x y n hun thr hid F T Q ns) ?_ ?_ 4 0 0 FUEL h (Nat.zero_add 4) (show 4 < 5000 by omega) ⟨c, cn⟩) (fun q w => ?_)
  · intro m s g hg
    show l_C_fits_4 (m + 1) _ _ _ = _
    rw [l_C_fits_4, if_pos (show (4 : Int32) ≤ nI 4 by decide)]
  · intro m k s g hk hg
    show ∃ h', l_C_fits_4 (m + 1) _ _ _ = l_C_fits_4 m _ _ _ ∧ _
    obtain ⟨h1, e1, s1⟩ := C_comes hk ns 0 FUEL g (by omega) (show ns < 5000 by omega) hg.1 hg.2
    refine ⟨h1, ?_, s1, hg.1.same s1, hg.2.same s1⟩
    have e0 : f_C_comesOut (nI k) g = some (if allF (noteB x y n hun thr hid F T Q k) ns 0 = true then 1 else 0, h1) := e1
    rw [l_C_fits_4, if_neg (show ¬ (4 : Int32) ≤ nI k from nI_ge (b := 4) hk (by omega)), e0, bnd_some, nI_1]
    unfold fitS
    cases allF (noteB x y n hun thr hid F T Q k) ns 0 <;> rfl
  · obtain ⟨w1, w2, w3⟩ := w
    refine ⟨q, ?_, w2⟩
    rw [show nI 0 = (0 : Int32) from rfl] at w1
    exact w1
theorem M_fitsV {h : Hp} (c : Ctx h n x y thr hun rea hid flt) (cn : NCtx h ns F T Q) : AnsM n x y f_M_fitsNow (fitV x y n hun thr hid F T Q ns) h := by
  have hns := cn.1
  obtain ⟨h0, g1, g2, g3, g4⟩ := c.fault
  unfold AnsM f_M_fitsNow fitV
  rw [g1, bnd_some]
  refine Exists.elim (itr_loop (F := fun m s i h => l_M_fitsNow_9 m s i h) (I := fun g => Ctx g n x y thr hun rea hid flt ∧ MP g n x y ∧ NCtx g ns F T Q) (n := 4) (res := fun s : Int32 => s) (st := fitS x y n hun thr hid F T Q ns) ?_ ?_ 4 0 0 FUEL h0 (Nat.zero_add 4) (show 4 < 5000 by omega) ⟨g4, g3, cn.same g2⟩) (fun q w => ?_)
  · intro m s g hg
    show l_M_fitsNow_9 (m + 1) _ _ _ = _
    rw [l_M_fitsNow_9, if_pos (show (4 : Int32) ≤ nI 4 by decide)]
  · intro m k s g hk hg
    show ∃ h', l_M_fitsNow_9 (m + 1) _ _ _ = l_M_fitsNow_9 m _ _ _ ∧ _
    obtain ⟨h1, e1, s1, M1⟩ := M_fit hk (l_M_fitsNow_9 m) s ns 0 FUEL g (by omega) (show ns + 1 < 5000 by omega) hg.1 hg.2.1 hg.2.2
    refine ⟨h1, ?_, s1, hg.1.same s1, M1, hg.2.2.same s1⟩
    rw [show nI 0 = (0 : Int32) from rfl] at e1
    rw [l_M_fitsNow_9, if_neg (show ¬ (4 : Int32) ≤ nI k from nI_ge (b := 4) hk (by omega)), e1]
    rfl
  · obtain ⟨w1, w2, w3⟩ := w
    refine ⟨q, ?_, g2.tr w2, w3.2.1⟩
    rw [show nI 0 = (0 : Int32) from rfl] at w1
    exact w1
end FI
theorem op_fits : OpOK Rel f_C_fits f_M_fits := by
  refine op_ofN (fun h n x y thr hun rea hid flt ns F T Q c cn => ⟨_, C_fitsV c cn, fun g cg cng => ?_⟩)
  obtain ⟨h1, e1, s1, -⟩ := M_fitsV cg cng
  refine ⟨h1, ?_, s1⟩
  unfold f_M_fits
  rw [e1, bnd_some]
