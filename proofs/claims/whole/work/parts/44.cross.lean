/-! PURE: crosses -/
theorem lay_ne {x y : Nat → Nat} {law n hun : Nat} : ∀ (k a : Nat) (fr : Nat → Bool) (left : Nat), fr a = false → ∀ i, i < (layS x y law n hun k a fr left).length → (a :: layS x y law n hun k a fr left).getD i 0 ≠ (a :: layS x y law n hun k a fr left).getD (i + 1) 0
  | 0, a, fr, left, _, i, hi => by rw [layS] at hi; exact absurd hi (Nat.not_lt_zero i)
  | k + 1, a, fr, left, ha, i, hi => by
    rw [layS] at hi ⊢
    unfold nx at hi ⊢
    cases hsel : sel (rkC x y law a) fr n with
    | none => rw [hsel] at hi; exact absurd hi (Nat.not_lt_zero i)
    | some t =>
      rw [hsel] at hi
      dsimp only at hi ⊢
      obtain ⟨ht, hft⟩ := sel_in hsel
      by_cases hc : farN x y a t + hun ≤ left
      · rw [if_pos hc] at hi ⊢
        cases i with
        | zero =>
          show a ≠ t
          rintro rfl
          rw [ha] at hft; cases hft
        | succ i =>
          have := lay_ne k t (del fr t) (left - (farN x y a t + hun)) (by unfold del; simp) i (by simpa using hi)
          exact this
      · rw [if_neg hc] at hi; exact absurd hi (Nat.not_lt_zero i)
theorem row_ne {x y : Nat → Nat} {n hun thr p l i : Nat} {hid : Int32} (hi : i + 1 < (rowP x y n hun thr hid p l).length) : (rowP x y n hun thr hid p l).getD i 0 ≠ (rowP x y n hun thr hid p l).getD (i + 1) 0 := by
  have h0 : fr0 n p hid p = false := by unfold fr0; simp
  exact lay_ne (n - 1) p (fr0 n p hid) thr h0 i (Nat.lt_of_succ_lt_succ hi)
