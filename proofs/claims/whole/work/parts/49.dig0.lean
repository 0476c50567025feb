/-! PURE: digest -/
def DC (n : Nat) (x y : Nat → Nat) (thr hun rea : Nat) (hid flt : Int32) (ns : Nat) (F T Q : Nat → Nat) (tl : Nat) (h : Hp) : Prop := Ctx h n x y thr hun rea hid flt ∧ NCtx h ns F T Q ∧ h 1 1 = nI tl ∧ h 31 1 = nI tl
section DG
variable {n : Nat} {x y : Nat → Nat} {thr hun rea : Nat} {hid flt : Int32} {ns : Nat} {F T Q : Nat → Nat} {tl : Nat}
theorem DC.same {h g : Hp} (hs : Same h g) (d : DC n x y thr hun rea hid flt ns F T Q tl h) : DC n x y thr hun rea hid flt ns F T Q tl g := ⟨d.1.same hs, d.2.1.same hs, (hs 1 1 rfl).trans d.2.2.1, (hs 31 1 rfl).trans d.2.2.2⟩
theorem qv_count (x1 : Int32) (h8 : x1 ≠ 8) : ∃ v, ∀ h, DC n x y thr hun rea hid flt ns F T Q tl h → Ans (f_C_count x1) v h ∧ Ans (f_M_count x1) v h := by
  have hs : ∀ h, DC n x y thr hun rea hid flt ns F T Q tl h → ∀ w : Int32, w = 0 ∨ w = 2 ∨ w = 7 → ∃ h2, f_M_sumOf w h = some (cntV x y n hid w, h2) ∧ Same h h2 := by
    intro h d w hw
    have hn := d.1.1.1
    obtain ⟨g, a1, a2, a3, a4⟩ := d.1.fault
    refine ⟨g, ?_, a2⟩
    unfold f_M_sumOf
    rw [a1, bnd_some]
    rcases hw with rfl | rfl | rfl
    · exact M_sumB a4 a3 0 (by decide) n 0 FUEL 0 (by omega) (by unfold FUEL; omega) rfl
    · exact M_sumB a4 a3 2 (by decide) n 0 FUEL 0 (by omega) (by unfold FUEL; omega) rfl
    · exact M_sum7 a4 a3
  unfold Ans f_C_count f_M_count
  by_cases q0 : x1 = 0
  · refine ⟨nI n, fun h d => ?_⟩
    obtain ⟨h2, e, s⟩ := hs h d x1 (Or.inl q0)
    exact ⟨⟨h, by rw [if_pos q0, d.1.2.1.1], Same.rf h⟩, ⟨h2, by rw [if_pos q0, e, bnd_some]; unfold cntV; rw [if_pos q0], s⟩⟩
  · by_cases q1 : x1 = 1
    · exact ⟨nI tl, fun h d => ⟨⟨h, by rw [if_neg q0, if_pos q1, d.2.2.1], Same.rf h⟩, ⟨h, by rw [if_neg q0, if_pos q1, d.2.2.2], Same.rf h⟩⟩⟩
    · by_cases q2 : x1 = 2
      · refine ⟨sbits (bt hid) n, fun h d => ?_⟩
        obtain ⟨h2, e, s⟩ := hs h d x1 (Or.inr (Or.inl q2))
        exact ⟨⟨h, by rw [if_neg q0, if_neg q1, if_pos q2]; exact C_bits d.1, Same.rf h⟩, ⟨h2, by rw [if_neg q0, if_neg q1, if_pos q2, e, bnd_some]; unfold cntV; rw [if_neg q0, if_pos q2], s⟩⟩
      · by_cases q3 : x1 = 3
        · exact ⟨nI thr, fun h d => ⟨⟨h, by rw [if_neg q0, if_neg q1, if_neg q2, if_pos q3, d.1.2.1.2.2.2.1], Same.rf h⟩, ⟨h, by rw [if_neg q0, if_neg q1, if_neg q2, if_pos q3, d.1.2.2.1.2.1], Same.rf h⟩⟩⟩
        · by_cases q4 : x1 = 4
          · exact ⟨nI hun, fun h d => ⟨⟨h, by rw [if_neg q0, if_neg q1, if_neg q2, if_neg q3, if_pos q4, d.1.2.1.2.2.2.2.1], Same.rf h⟩, ⟨h, by rw [if_neg q0, if_neg q1, if_neg q2, if_neg q3, if_pos q4, d.1.2.2.1.2.2.1], Same.rf h⟩⟩⟩
          · by_cases q5 : x1 = 5
            · exact ⟨nI rea, fun h d => ⟨⟨h, by rw [if_neg q0, if_neg q1, if_neg q2, if_neg q3, if_neg q4, if_pos q5, d.1.2.1.2.2.2.2.2.1], Same.rf h⟩, ⟨h, by rw [if_neg q0, if_neg q1, if_neg q2, if_neg q3, if_neg q4, if_pos q5, d.1.2.2.1.2.2.2], Same.rf h⟩⟩⟩
            · by_cases q6 : x1 = 6
              · exact ⟨nI ns, fun h d => ⟨⟨h, by rw [if_neg q0, if_neg q1, if_neg q2, if_neg q3, if_neg q4, if_neg q5, if_pos q6, d.2.1.2.1], Same.rf h⟩, ⟨h, by rw [if_neg q0, if_neg q1, if_neg q2, if_neg q3, if_neg q4, if_neg q5, if_pos q6, d.2.1.2.2.1], Same.rf h⟩⟩⟩
              · by_cases q7 : x1 = 7
                · refine ⟨nI (sM x y n), fun h d => ?_⟩
                  obtain ⟨h2, e, s⟩ := hs h d x1 (Or.inr (Or.inr q7))
                  exact ⟨⟨h, by rw [if_neg q0, if_neg q1, if_neg q2, if_neg q3, if_neg q4, if_neg q5, if_neg q6, if_pos q7, C_pairs d.1, bnd_some, sC_M], Same.rf h⟩, ⟨h2, by rw [if_neg q0, if_neg q1, if_neg q2, if_neg q3, if_neg q4, if_neg q5, if_neg q6, if_pos q7, e, bnd_some]; unfold cntV; rw [if_neg q0, if_neg q2], s⟩⟩
                · exact ⟨-2, fun h d => ⟨⟨h, by rw [if_neg q0, if_neg q1, if_neg q2, if_neg q3, if_neg q4, if_neg q5, if_neg q6, if_neg q7, if_neg h8], Same.rf h⟩, ⟨h, by rw [if_neg q0, if_neg q1, if_neg q2, if_neg q3, if_neg q4, if_neg q5, if_neg q6, if_neg q7, if_neg h8], Same.rf h⟩⟩⟩
end DG
