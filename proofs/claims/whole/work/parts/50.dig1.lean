/-! PURE: digest: class and reference side by side -/
section SM
variable {n : Nat} {x y : Nat → Nat} {thr hun rea : Nat} {hid flt : Int32} {ns : Nat} {F T Q : Nat → Nat} {tl : Nat}
/-- one value on both sides: D what holds on the class's side, J to J' on the reference's -/
def Sm {ρ : Type} (D J J' : Hp → Prop) (fc fm : Hp → Option (ρ × Hp)) : Prop := ∃ v, (∀ h, D h → Ans fc v h) ∧ ∀ h, J h → ∃ h', fm h = some (v, h') ∧ Same h h' ∧ J' h'
theorem Sm.cg {ρ : Type} {D J J' : Hp → Prop} {fc fc' fm fm' : Hp → Option (ρ × Hp)} (H : Sm D J J' fc fm) (e1 : ∀ h, D h → fc' h = fc h) (e2 : ∀ h, J h → fm' h = fm h) : Sm D J J' fc' fm' := by
  obtain ⟨v, a, b⟩ := H
  refine ⟨v, fun h hd => ?_, fun h hj => ?_⟩
  · obtain ⟨h', w1, w2⟩ := a h hd
    exact ⟨h', by rw [e1 h hd]; exact w1, w2⟩
  · obtain ⟨h', w1, w2⟩ := b h hj
    exact ⟨h', by rw [e2 h hj]; exact w1, w2⟩
theorem Sm.mono {ρ : Type} {D J J' K K' : Hp → Prop} {fc fm : Hp → Option (ρ × Hp)} (H : Sm D J J' fc fm) (e1 : ∀ h, K h → J h) (e2 : ∀ h, J' h → K' h) : Sm D K K' fc fm := by
  obtain ⟨v, a, b⟩ := H
  refine ⟨v, a, fun h hj => ?_⟩
  obtain ⟨h', w1, w2, w3⟩ := b h (e1 h hj)
  exact ⟨h', w1, w2, e2 h' w3⟩
theorem Sm.bind {ρ σ : Type} {D J J1 J' : Hp → Prop} (hD : ∀ h g, Same h g → D h → D g) {fc fm : Hp → Option (ρ × Hp)} {kc km : ρ → Hp → Option (σ × Hp)} (H : Sm D J J1 fc fm) (K : ∀ v, Sm D J1 J' (kc v) (km v)) : Sm D J J' (fun h => bnd (fc h) kc) (fun h => bnd (fm h) km) := by
  obtain ⟨v, a, b⟩ := H
  obtain ⟨w, c, d⟩ := K v
  refine ⟨w, fun h hd => ?_, fun h hj => ?_⟩
  · obtain ⟨h1, e1, s1⟩ := a h hd
    obtain ⟨h2, e2, s2⟩ := c h1 (hD h h1 s1 hd)
    exact ⟨h2, by show bnd (fc h) kc = _; rw [e1, bnd_some]; exact e2, s1.tr s2⟩
  · obtain ⟨h1, e1, s1, j1⟩ := b h hj
    obtain ⟨h2, e2, s2, j2⟩ := d h1 j1
    exact ⟨h2, by show bnd (fm h) km = _; rw [e1, bnd_some]; exact e2, s1.tr s2, j2⟩
theorem Sm.pure {ρ : Type} {D J : Hp → Prop} (v : ρ) : Sm D J J (fun h => some (v, h)) (fun h => some (v, h)) := ⟨v, fun h _ => ⟨h, rfl, Same.rf h⟩, fun h hj => ⟨h, rfl, Same.rf h, hj⟩⟩
theorem bnd_bnd {ρ σ τ : Type} (o : Option (ρ × Hp)) (f : ρ → Hp → Option (σ × Hp)) (g : σ → Hp → Option τ) : bnd (bnd o f) g = bnd o (fun r h => bnd (f r h) g) := by
  cases o with
  | none => rfl
  | some q => rfl
/-- a loop on both sides -/
theorem Sm.loop {ρ σ : Type} {D J J' : Hp → Prop} {Fc Fm : Nat → σ → Int32 → Hp → Option (ρ × Hp)} {N : Nat}
    (hend : ∀ m m' s, Sm D J J' (Fc (m + 1) s (nI N)) (Fm (m' + 1) s (nI N)))
    (hstep : ∀ m m' k s, k < N → (∀ s', Sm D J J' (Fc m s' (nI (k + 1))) (Fm m' s' (nI (k + 1)))) → Sm D J J' (Fc (m + 1) s (nI k)) (Fm (m' + 1) s (nI k))) :
    ∀ j k s m m', k + j = N → j < m → j < m' → Sm D J J' (Fc m s (nI k)) (Fm m' s (nI k)) := by
  intro j
  induction j with
  | zero =>
    intro k s m m' hk hm hm'
    obtain ⟨m, rfl⟩ : ∃ z, m = z + 1 := ⟨m - 1, by omega⟩
    obtain ⟨m', rfl⟩ : ∃ z, m' = z + 1 := ⟨m' - 1, by omega⟩
    have : k = N := by omega
    subst this
    exact hend m m' s
  | succ j ih =>
    intro k s m m' hk hm hm'
    obtain ⟨m, rfl⟩ : ∃ z, m = z + 1 := ⟨m - 1, by omega⟩
    obtain ⟨m', rfl⟩ : ∃ z, m' = z + 1 := ⟨m' - 1, by omega⟩
    exact hstep m m' k s (by omega) (fun s' => ih (k + 1) s' m m' (by omega) (by omega) (by omega))
end SM
