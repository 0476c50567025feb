/-! PURE: digest: the calls that it tells -/
def DM (n : Nat) (x y : Nat → Nat) (thr hun rea : Nat) (hid flt : Int32) (ns : Nat) (F T Q : Nat → Nat) (tl : Nat) (h : Hp) : Prop := DC n x y thr hun rea hid flt ns F T Q tl h ∧ MP h n x y
section DQ
variable {n : Nat} {x y : Nat → Nat} {thr hun rea : Nat} {hid flt : Int32} {ns : Nat} {F T Q : Nat → Nat} {tl : Nat}
theorem sm_mp {ρ : Type} {fc fm : Hp → Option (ρ × Hp)} (v : ρ) (a : ∀ h, DC n x y thr hun rea hid flt ns F T Q tl h → Ans fc v h) (b : ∀ h, DC n x y thr hun rea hid flt ns F T Q tl h → MP h n x y → AnsM n x y fm v h) : Sm (DC n x y thr hun rea hid flt ns F T Q tl) (DM n x y thr hun rea hid flt ns F T Q tl) (DM n x y thr hun rea hid flt ns F T Q tl) fc fm := by
  refine ⟨v, a, fun h hj => ?_⟩
  obtain ⟨h', e, s, M⟩ := b h hj.1 hj.2
  exact ⟨h', e, s, hj.1.same s, M⟩
theorem sm_hv {ρ : Type} {fc fm : Hp → Option (ρ × Hp)} (h0 : ∃ h, DC n x y thr hun rea hid flt ns F T Q tl h) (H : HV fc fm) : Sm (DC n x y thr hun rea hid flt ns F T Q tl) (DC n x y thr hun rea hid flt ns F T Q tl) (DC n x y thr hun rea hid flt ns F T Q tl) fc fm := by
  obtain ⟨h0, d0⟩ := h0
  obtain ⟨v, a, b⟩ := H.one d0.1
  refine ⟨v, fun h hd => a h hd.1, fun h hd => ?_⟩
  obtain ⟨h', e, s⟩ := b h hd.1
  exact ⟨h', e, s, hd.same s⟩
theorem sm_count (x1 : Int32) (h8 : x1 ≠ 8) : Sm (DC n x y thr hun rea hid flt ns F T Q tl) (DC n x y thr hun rea hid flt ns F T Q tl) (DC n x y thr hun rea hid flt ns F T Q tl) (f_C_count x1) (f_M_count x1) := by
  obtain ⟨v, a⟩ := qv_count (n := n) (x := x) (y := y) (thr := thr) (hun := hun) (rea := rea) (hid := hid) (flt := flt) (ns := ns) (F := F) (T := T) (Q := Q) (tl := tl) x1 h8
  refine ⟨v, fun h hd => (a h hd).1, fun h hd => ?_⟩
  obtain ⟨h', e, s⟩ := (a h hd).2
  exact ⟨h', e, s, hd.same s⟩
theorem sm_fault : Sm (DC n x y thr hun rea hid flt ns F T Q tl) (DC n x y thr hun rea hid flt ns F T Q tl) (DM n x y thr hun rea hid flt ns F T Q tl) f_C_fault f_M_faultNow := by
  refine ⟨flt, fun h d => ⟨h, ?_, Same.rf h⟩, fun h d => ?_⟩
  · unfold f_C_fault; rw [d.1.2.1.2.2.2.2.2.2]
  · obtain ⟨h1, a1, a2, a3, a4⟩ := d.1.fault
    exact ⟨h1, a1, a2, d.same a2, a3⟩
theorem sm_length {p l k : Nat} (hp : p < n) (hl : l < 4) (hk : k < 3) : Sm (DC n x y thr hun rea hid flt ns F T Q tl) (DM n x y thr hun rea hid flt ns F T Q tl) (DM n x y thr hun rea hid flt ns F T Q tl) (f_C_length (nI p) (nI l) (nI k)) (f_M_lengthOf (nI p) (nI l) (nI k)) := by
  refine sm_mp (lenV x y n hun thr hid p l (nI k)) (fun h d => C_lengthP d.1 hp hl ?_) (fun h d M => M_lengthOf d.1 M (nI k) hp hl)
  rcases (show k = 0 ∨ k = 1 ∨ k = 2 by omega) with rfl | rfl | rfl <;> decide
theorem sm_crosses {p l : Nat} (hp : p < n) (hl : l < 4) : Sm (DC n x y thr hun rea hid flt ns F T Q tl) (DM n x y thr hun rea hid flt ns F T Q tl) (DM n x y thr hun rea hid flt ns F T Q tl) (f_C_crosses (nI p) (nI l)) (f_M_crossesOf (nI p) (nI l)) :=
  sm_mp _ (fun h d => C_crossesP d.1 hp hl) (fun h d M => M_crossesOf d.1 M hp hl)
theorem sm_turned {p l : Nat} (hp : p < n) (hl : l < 4) : Sm (DC n x y thr hun rea hid flt ns F T Q tl) (DM n x y thr hun rea hid flt ns F T Q tl) (DM n x y thr hun rea hid flt ns F T Q tl) (f_C_turned (nI p) (nI l)) (f_M_turnedOf (nI p) (nI l)) :=
  sm_mp _ (fun h d => C_turnedP d.1 hp hl) (fun h d M => M_turnedOf d.1 M hp hl)
theorem sm_web {p l : Nat} (hp : p < n) (hl : l < 4) : Sm (DC n x y thr hun rea hid flt ns F T Q tl) (DM n x y thr hun rea hid flt ns F T Q tl) (DM n x y thr hun rea hid flt ns F T Q tl) (f_C_web (nI p) (nI l) 1) (f_M_webOf (nI p) (nI l) 1) :=
  sm_mp _ (fun h d => C_webP (i := 1) d.1 hp hl (by omega)) (fun h d M => M_webOf (i := 1) d.1 M hp hl (by omega))
theorem sm_hangs {p l : Nat} (hp : p < n) (hl : l < 4) : Sm (DC n x y thr hun rea hid flt ns F T Q tl) (DM n x y thr hun rea hid flt ns F T Q tl) (DM n x y thr hun rea hid flt ns F T Q tl) (f_C_hangs (nI p) (nI l) 0) (f_M_hangsOf (nI p) (nI l) 0) := by
  refine sm_mp (hangV x y n hun thr hid p l 0) (fun h d => C_hangsP d.1 hp hl ?_) (fun h d M => ?_)
  · have hn := d.1.1.1
    exact inN_nI (k := 0) (by omega) (by omega)
  · obtain ⟨h', e, s, M', -⟩ := M_hangsOf d.1 M 0 hp hl
    exact ⟨h', e, s, M'⟩
theorem sm_flies {p l : Nat} (hp : p < n) (hl : l < 4) : Sm (DC n x y thr hun rea hid flt ns F T Q tl) (DM n x y thr hun rea hid flt ns F T Q tl) (DM n x y thr hun rea hid flt ns F T Q tl) (f_C_flies (nI p) (nI l) 7 9) (f_M_fliesOf (nI p) (nI l) 7 9) :=
  sm_mp _ (fun h d => C_fliesP (N := 9) d.1 7 hp hl (by omega)) (fun h d M => M_fliesOf (N := 9) d.1 M 7 hp hl (by omega))
theorem sm_pieces {p l : Nat} (hp : p < n) (hl : l < 4) : Sm (DC n x y thr hun rea hid flt ns F T Q tl) (DM n x y thr hun rea hid flt ns F T Q tl) (DM n x y thr hun rea hid flt ns F T Q tl) (f_C_pieces (nI p) (nI l) 1) (f_M_pieces (nI p) (nI l) 1) := by
  have hb : ∀ h, DC n x y thr hun rea hid flt ns F T Q tl h → (inN (nI p) n && inN (nI l) 4) = true := by
    intro h d
    have hn := d.1.1.1
    rw [inN_nI hp (by omega), inN_nI hl (by omega)]; rfl
  by_cases h3 : inN 1 n = true
  · refine sm_mp (pieV x y n hun thr hid p l 1) (fun h d => C_piecesP d.1 hp hl h3) (fun h d M => ?_)
    obtain ⟨h1, g1, g2, g3, g4⟩ := M_isWeb d.1 (nI p) (nI l)
    obtain ⟨h1b, r1, r2, r3, r4⟩ := g4.isPeg 1
    obtain ⟨h2, k1, k2, k3⟩ := M_piecesOf r4 r3 1 hp hl
    refine ⟨h2, ?_, (g2.tr r2).tr k2, k3⟩
    unfold f_M_pieces
    rw [g1, hb h d, bnd_some, if_neg (by decide), r1, h3, bnd_some, if_neg (by decide), k1, bnd_some]
  · refine sm_mp (-2) (fun h d => ⟨h, ?_, Same.rf h⟩) (fun h d M => ?_)
    · unfold f_C_pieces
      rw [C_can d.1, hb h d, bnd_some, if_neg (by decide)]
      rw [Fr_has 1 d.1.2.1.1 d.1.1.1, bnd_some, if_neg h3, if_pos rfl]
    · obtain ⟨h1, g1, g2, g3, g4⟩ := M_isWeb d.1 (nI p) (nI l)
      obtain ⟨h1b, r1, r2, r3, r4⟩ := g4.isPeg 1
      refine ⟨h1b, ?_, g2.tr r2, r3⟩
      unfold f_M_pieces
      rw [g1, hb h d, bnd_some, if_neg (by decide), r1, bnd_some, if_neg h3, if_pos rfl]
theorem sm_begin {l : Nat} (hl : l < 4) : Sm (DC n x y thr hun rea hid flt ns F T Q tl) (DC n x y thr hun rea hid flt ns F T Q tl) (DC n x y thr hun rea hid flt ns F T Q tl) (f_C_begin (nI l)) (f_M_beginOf (nI l)) := by
  refine ⟨begV x y n hun thr hid l, fun h d => C_beginP d.1 hl, fun h d => ?_⟩
  obtain ⟨h', e, s, -⟩ := M_beginOf d.1 hl
  exact ⟨h', e, s, d.same s⟩
theorem sm_fits : Sm (DC n x y thr hun rea hid flt ns F T Q tl) (DC n x y thr hun rea hid flt ns F T Q tl) (DC n x y thr hun rea hid flt ns F T Q tl) f_C_fits f_M_fitsNow := by
  refine ⟨_, fun h d => C_fitsV d.1 d.2.1, fun h d => ?_⟩
  obtain ⟨h', e, s, -⟩ := M_fitsV d.1 d.2.1
  exact ⟨h', e, s, d.same s⟩
theorem sm_tells : Sm (DC n x y thr hun rea hid flt ns F T Q tl) (DC n x y thr hun rea hid flt ns F T Q tl) (DC n x y thr hun rea hid flt ns F T Q tl) f_C_tells f_M_tellsNow := by
  refine ⟨_, fun h d => C_tellsV d.1 d.2.1, fun h d => ?_⟩
  obtain ⟨h', e, s, -⟩ := M_tellsV d.1 d.2.1
  exact ⟨h', e, s, d.same s⟩
end DQ
