/-- lay answers the spider that it was given -/
theorem lay_ret_l : ∀ (n : Nat) (a1 a2 : Nat) (x4 x6 x7 : Int32) (h : Hp) (r : Nat) (h1 : Hp), l_C_lay_31 n a1 a2 x4 x6 x7 h = some (r, h1) → r = a1 := by
  intro n
  induction n with
  | zero => intro a1 a2 x4 x6 x7 h r h1 e; cases e
  | succ n ih =>
    intro a1 a2 x4 x6 x7 h r h1 e
    rw [l_C_lay_31] at e
    split at e
    · cases e; rfl
    · obtain ⟨_, _, _, e⟩ := bnd_inv e
      obtain ⟨_, _, _, e⟩ := bnd_inv e
      split at e
      · cases e; rfl
      · obtain ⟨_, _, _, e⟩ := bnd_inv e
        obtain ⟨_, _, _, e⟩ := bnd_inv e
        obtain ⟨_, _, _, e⟩ := bnd_inv e
        split at e
        · cases e; rfl
        · exact ih _ _ _ _ _ _ _ _ e
theorem lay_ret {a1 a2 : Nat} {x3 x4 x5 : Int32} {h h1 : Hp} {r : Nat} (e : f_C_lay a1 a2 x3 x4 x5 h = some (r, h1)) : r = a1 := by
  unfold f_C_lay at e
  obtain ⟨_, _, _, e⟩ := bnd_inv e
  obtain ⟨_, _, _, e⟩ := bnd_inv e
  exact lay_ret_l _ _ _ _ _ _ _ _ _ e
theorem lay_isO {a1 a2 : Nat} {x3 x4 x5 : Int32} {h h1 : Hp} {r : Nat} (ha : isO 3 a1) (e : f_C_lay a1 a2 x3 x4 x5 h = some (r, h1)) : isO 3 r := by
  rw [lay_ret e]; exact ha
